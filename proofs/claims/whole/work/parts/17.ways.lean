/-! THE NOTES' ANSWERS, AND THE WAYS. -/
set_option maxHeartbeats 1000000 in
set_option maxRecDepth 100000 in
theorem tX4_allFit {l : Launch} {E : aw_E} {d n t : Nat} {h : ah} {T : sT} (hT : is_tr h t T) {p k h' : Int32} : am l E mX4_allFit (d + 4) 0 0 [.ref (t + 13), .ref t, .int p, .int k, .int h'] n h (aw_eq n h (some (.int (nFit T p k h')))) := by
  refine am_of (by decide +kernel) (Nat.le_of_ble_eq_true rfl) ?_
  refine aw_iconst (v := 0) dX4_allFit_0 (by decide) ?_
  refine aw_istore dX4_allFit_1 (by decide) ?_
  have hN1 := clamp_lt (T 10 3)
  have hNN : nN T = min (T 10 3).toNatClampNeg 6 := rfl
  have key : ∀ (k1 j : Nat), j + k1 = nN T → nFit T p k h' = lpAll (fun j => T 5 j = p → kW k (T 6 j) h' (T 8 j) = T 7 j) k1 j  → aw l E mX4_allFit (aw_Z E (aw_eq n h (some (.int (nFit T p k h'))))) (d + 4) 0 0 3 [(0, .ref (t + 13)), (1, .ref t), (2, .int p), (3, .int k), (4, .int h'), (5, .int (nI j))] [] n h := by
    intro k1
    induction k1 with
    | zero =>
      intro j  hj  heq
      refine aw_iload dX4_allFit_3 rfl ?_
      refine aw_aload_n dX4_allFit_5 rfl ?_
      refine aw_get dX4_allFit_6 flX4_24 (tr_c13 hT) rfl ?_
      refine aw_icmp_ge (tgt := 69) dX4_allFit_9 (by decide) (fun c9 => ?_) (fun c9 => ?_)
      · refine aw_iconst (v := 1) dX4_allFit_69 (by decide) ?_
        exact aw_zret dX4_allFit_70 rfl rfl (⟨congrArg (fun z => some (Value.int z)) heq, rfl, rfl⟩)
      · refine aw_iload dX4_allFit_12 rfl ?_
        refine aw_bipush (v := 6) dX4_allFit_14 (by decide) ?_
        refine aw_icmp_ge (tgt := 69) dX4_allFit_16 (by decide) (fun c16 => ?_) (fun c16 => ?_)
        · refine aw_iconst (v := 1) dX4_allFit_69 (by decide) ?_
          exact aw_zret dX4_allFit_70 rfl rfl (⟨congrArg (fun z => some (Value.int z)) heq, rfl, rfl⟩)
        · have q1 := mt (i_le_nI (x := T 10 3) (j := j) (by omega)).mpr c9
          have q2 := mt (nI_leI (a := 6) (b := j) (by omega) (by omega)).mpr c16
          omega
    | succ k1 ih =>
      intro j  hj  heq
      refine aw_iload dX4_allFit_3 rfl ?_
      refine aw_aload_n dX4_allFit_5 rfl ?_
      refine aw_get dX4_allFit_6 flX4_24 (tr_c13 hT) rfl ?_
      refine aw_icmp_ge (tgt := 69) dX4_allFit_9 (by decide) (fun c9 => ?_) (fun c9 => ?_)
      · exact absurd ((i_le_nI (x := T 10 3) (j := j) (by omega)).mp c9) (by omega)
      · refine aw_iload dX4_allFit_12 rfl ?_
        refine aw_bipush (v := 6) dX4_allFit_14 (by decide) ?_
        refine aw_icmp_ge (tgt := 69) dX4_allFit_16 (by decide) (fun c16 => ?_) (fun c16 => ?_)
        · exact absurd ((nI_leI (a := 6) (b := j) (by omega) (by omega)).mp c16) (by omega)
        · refine aw_aload_n dX4_allFit_19 rfl ?_
          refine aw_get dX4_allFit_20 flX4_9 (tr_c13 hT) rfl ?_
          refine aw_iload dX4_allFit_23 rfl ?_
          refine aw_ialdN dX4_allFit_25 (tr_c14 hT) rfl (by omega) (by decide) ?_
          refine aw_iload_n dX4_allFit_26 rfl ?_
          refine aw_icmp_ne (tgt := 63) dX4_allFit_27 (by decide) (fun c27 => ?_) (fun c27 => ?_)
          · refine aw_inc (w := 1) dX4_allFit_63 rfl (by decide) (by decide) ?_
            refine aw_goto (tgt := 3) dX4_allFit_66 (by decide) ?_
            exact aw_loc [0, 1, 2, 3, 4, 5] (ls2 := [(0, .ref (t + 13)), (1, .ref t), (2, .int p), (3, .int k), (4, .int h'), (5, .int (nI (j + 1)))]) (by first | (rw [nI_succ]; rfl) | rfl) (ih (j + 1)  (by omega)  (heq.trans (if_pos (fun e => absurd e c27))))
          · refine aw_aload_n dX4_allFit_30 rfl ?_
            refine aw_iload_n dX4_allFit_31 rfl ?_
            refine aw_aload_n dX4_allFit_32 rfl ?_
            refine aw_get dX4_allFit_33 flX4_15 (tr_c13 hT) rfl ?_
            refine aw_iload dX4_allFit_36 rfl ?_
            refine aw_ialdN dX4_allFit_38 (tr_c15 hT) rfl (by omega) (by decide) ?_
            refine aw_iload dX4_allFit_39 rfl ?_
            refine aw_aload_n dX4_allFit_41 rfl ?_
            refine aw_get dX4_allFit_42 flX4_21 (tr_c13 hT) rfl ?_
            refine aw_iload dX4_allFit_45 rfl ?_
            refine aw_ialdN dX4_allFit_47 (tr_c17 hT) rfl (by omega) (by decide) ?_
            refine aw_callV4p dX4_allFit_48 cmX9_weightBy cvX4_47 (tr_c0 hT) (Nat.le_of_ble_eq_true rfl) (tX9_weightBy hT) ?_
            refine aw_aload_n dX4_allFit_51 rfl ?_
            refine aw_get dX4_allFit_52 flX4_18 (tr_c13 hT) rfl ?_
            refine aw_iload dX4_allFit_55 rfl ?_
            refine aw_ialdN dX4_allFit_57 (tr_c16 hT) rfl (by omega) (by decide) ?_
            refine aw_icmp_eq (tgt := 63) dX4_allFit_58 (by decide) (fun c58 => ?_) (fun c58 => ?_)
            · refine aw_inc (w := 1) dX4_allFit_63 rfl (by decide) (by decide) ?_
              refine aw_goto (tgt := 3) dX4_allFit_66 (by decide) ?_
              exact aw_loc [0, 1, 2, 3, 4, 5] (ls2 := [(0, .ref (t + 13)), (1, .ref t), (2, .int p), (3, .int k), (4, .int h'), (5, .int (nI (j + 1)))]) (by first | (rw [nI_succ]; rfl) | rfl) (ih (j + 1)  (by omega)  (heq.trans (if_pos (fun _ => c58))))
            · refine aw_iconst (v := 0) dX4_allFit_61 (by decide) ?_
              exact aw_zret dX4_allFit_62 rfl rfl (⟨congrArg (fun z => some (Value.int z)) (heq.trans (if_neg (fun f => c58 (f c27)))), rfl, rfl⟩)
  exact aw_loc [0, 1, 2, 3, 4, 5] (ls2 := [(0, .ref (t + 13)), (1, .ref t), (2, .int p), (3, .int k), (4, .int h'), (5, .int (nI 0))]) rfl (key (nN T) 0  (by first | rfl | omega)  rfl)
set_option maxHeartbeats 1000000 in
set_option maxRecDepth 100000 in
theorem tX4_kindsThatFit {l : Launch} {E : aw_E} {d n t : Nat} {h : ah} {T : sT} (hT : is_tr h t T) {p : Int32} : am l E mX4_kindsThatFit (d + 5) 0 0 [.ref (t + 13), .ref t, .int p] n h (aw_eq n h (some (.int (nKinds T p)))) := by
  refine am_of (by decide +kernel) (Nat.le_of_ble_eq_true rfl) ?_
  refine aw_iconst (v := 0) dX4_kindsThatFit_0 (by decide) ?_
  refine aw_istore_n dX4_kindsThatFit_1 (by decide) ?_
  refine aw_iconst (v := 0) dX4_kindsThatFit_2 (by decide) ?_
  refine aw_istore dX4_kindsThatFit_3 (by decide) ?_
  have key : ∀ (k j : Nat) (a : Int32), j + k = 6 → nKinds T p = lpBits (fun j => nFit T p (nI j) (trG 1 T p)) k j a → aw l E mX4_kindsThatFit (aw_Z E (aw_eq n h (some (.int (nKinds T p))))) (d + 5) 0 0 5 [(0, .ref (t + 13)), (1, .ref t), (2, .int p), (3, .int a), (4, .int (nI j))] [] n h := by
    intro k
    induction k with
    | zero =>
      intro j a hj  heq
      refine aw_iload dX4_kindsThatFit_5 rfl ?_
      refine aw_bipush (v := 6) dX4_kindsThatFit_7 (by decide) ?_
      refine aw_icmp_ge (tgt := 41) dX4_kindsThatFit_9 (by decide) (fun c9 => ?_) (fun c9 => ?_)
      · refine aw_iload_n dX4_kindsThatFit_41 rfl ?_
        exact aw_iret dX4_kindsThatFit_42 rfl (⟨congrArg (fun z => some (Value.int z)) heq, rfl, rfl⟩)
      · exact absurd ((nI_leI (a := 6) (b := j) (by omega) (by omega)).mpr (by omega)) c9
    | succ k ih =>
      intro j a hj  heq
      refine aw_iload dX4_kindsThatFit_5 rfl ?_
      refine aw_bipush (v := 6) dX4_kindsThatFit_7 (by decide) ?_
      refine aw_icmp_ge (tgt := 41) dX4_kindsThatFit_9 (by decide) (fun c9 => ?_) (fun c9 => ?_)
      · exact absurd ((nI_leI (a := 6) (b := j) (by omega) (by omega)).mp c9) (by omega)
      · refine aw_aload_n dX4_kindsThatFit_12 rfl ?_
        refine aw_aload_n dX4_kindsThatFit_13 rfl ?_
        refine aw_iload_n dX4_kindsThatFit_14 rfl ?_
        refine aw_iload dX4_kindsThatFit_15 rfl ?_
        refine aw_aload_n dX4_kindsThatFit_17 rfl ?_
        refine aw_iload_n dX4_kindsThatFit_18 rfl ?_
        refine aw_callV1p dX4_kindsThatFit_19 cmX9_honestyOf cvX4_28 (tr_c0 hT) (Nat.le_of_ble_eq_true rfl) (tX9_honestyOf hT) ?_
        refine aw_callV4p dX4_kindsThatFit_22 cmX4_allFit cvX4_34 (tr_c13 hT) (Nat.le_of_ble_eq_true rfl) (tX4_allFit hT) ?_
        refine aw_if_eq (tgt := 35) dX4_kindsThatFit_25 (by decide) (fun c25 => ?_) (fun c25 => ?_)
        · refine aw_inc (w := 1) dX4_kindsThatFit_35 rfl (by decide) (by decide) ?_
          refine aw_goto (tgt := 5) dX4_kindsThatFit_38 (by decide) ?_
          exact aw_loc [0, 1, 2, 3, 4] (ls2 := [(0, .ref (t + 13)), (1, .ref t), (2, .int p), (3, .int a), (4, .int (nI (j + 1)))]) (by first | (rw [nI_succ]; rfl) | rfl) (ih (j + 1) a (by omega)  (heq.trans (congrArg (lpBits (fun j => nFit T p (nI j) (trG 1 T p)) k (j + 1)) (if_pos c25))))
        · refine aw_iload_n dX4_kindsThatFit_28 rfl ?_
          refine aw_iconst (v := 1) dX4_kindsThatFit_29 (by decide) ?_
          refine aw_iload dX4_kindsThatFit_30 rfl ?_
          refine aw_ishl dX4_kindsThatFit_32 ?_
          refine aw_ior dX4_kindsThatFit_33 ?_
          refine aw_istore_n dX4_kindsThatFit_34 (by decide) ?_
          refine aw_inc (w := 1) dX4_kindsThatFit_35 rfl (by decide) (by decide) ?_
          refine aw_goto (tgt := 5) dX4_kindsThatFit_38 (by decide) ?_
          exact aw_loc [0, 1, 2, 3, 4] (ls2 := [(0, .ref (t + 13)), (1, .ref t), (2, .int p), (3, .int (a ||| (1 <<< (nI j &&& 31)))), (4, .int (nI (j + 1)))]) (by first | (rw [nI_succ]; rfl) | rfl) (ih (j + 1) (a ||| (1 <<< (nI j &&& 31))) (by omega)  (heq.trans (congrArg (lpBits (fun j => nFit T p (nI j) (trG 1 T p)) k (j + 1)) (if_neg c25))))
  exact aw_loc [0, 1, 2, 3, 4] (ls2 := [(0, .ref (t + 13)), (1, .ref t), (2, .int p), (3, .int 0), (4, .int (nI 0))]) rfl (key (6) 0 0 (by first | rfl | omega)  rfl)
set_option maxHeartbeats 1000000 in
set_option maxRecDepth 100000 in
theorem tX4_honestiesThatFit {l : Launch} {E : aw_E} {d n t : Nat} {h : ah} {T : sT} (hT : is_tr h t T) {p : Int32} : am l E mX4_honestiesThatFit (d + 5) 0 0 [.ref (t + 13), .ref t, .int p] n h (aw_eq n h (some (.int (nHons T p)))) := by
  refine am_of (by decide +kernel) (Nat.le_of_ble_eq_true rfl) ?_
  refine aw_iconst (v := 0) dX4_honestiesThatFit_0 (by decide) ?_
  refine aw_istore_n dX4_honestiesThatFit_1 (by decide) ?_
  refine aw_iconst (v := 0) dX4_honestiesThatFit_2 (by decide) ?_
  refine aw_istore dX4_honestiesThatFit_3 (by decide) ?_
  have key : ∀ (k j : Nat) (a : Int32), j + k = 13 → nHons T p = lpBits (fun j => nFit T p (trG 0 T p) (nI j)) k j a → aw l E mX4_honestiesThatFit (aw_Z E (aw_eq n h (some (.int (nHons T p))))) (d + 5) 0 0 5 [(0, .ref (t + 13)), (1, .ref t), (2, .int p), (3, .int a), (4, .int (nI j))] [] n h := by
    intro k
    induction k with
    | zero =>
      intro j a hj  heq
      refine aw_iload dX4_honestiesThatFit_5 rfl ?_
      refine aw_bipush (v := 12) dX4_honestiesThatFit_7 (by decide) ?_
      refine aw_icmp_gt (tgt := 41) dX4_honestiesThatFit_9 (by decide) (fun c9 => ?_) (fun c9 => ?_)
      · refine aw_iload_n dX4_honestiesThatFit_41 rfl ?_
        exact aw_iret dX4_honestiesThatFit_42 rfl (⟨congrArg (fun z => some (Value.int z)) heq, rfl, rfl⟩)
      · exact absurd ((nI_ltI (a := 12) (b := j) (by omega) (by omega)).mpr (by omega)) c9
    | succ k ih =>
      intro j a hj  heq
      refine aw_iload dX4_honestiesThatFit_5 rfl ?_
      refine aw_bipush (v := 12) dX4_honestiesThatFit_7 (by decide) ?_
      refine aw_icmp_gt (tgt := 41) dX4_honestiesThatFit_9 (by decide) (fun c9 => ?_) (fun c9 => ?_)
      · exact absurd ((nI_ltI (a := 12) (b := j) (by omega) (by omega)).mp c9) (by omega)
      · refine aw_aload_n dX4_honestiesThatFit_12 rfl ?_
        refine aw_aload_n dX4_honestiesThatFit_13 rfl ?_
        refine aw_iload_n dX4_honestiesThatFit_14 rfl ?_
        refine aw_aload_n dX4_honestiesThatFit_15 rfl ?_
        refine aw_iload_n dX4_honestiesThatFit_16 rfl ?_
        refine aw_callV1p dX4_honestiesThatFit_17 cmX9_kindOf cvX4_38 (tr_c0 hT) (Nat.le_of_ble_eq_true rfl) (tX9_kindOf hT) ?_
        refine aw_iload dX4_honestiesThatFit_20 rfl ?_
        refine aw_callV4p dX4_honestiesThatFit_22 cmX4_allFit cvX4_34 (tr_c13 hT) (Nat.le_of_ble_eq_true rfl) (tX4_allFit hT) ?_
        refine aw_if_eq (tgt := 35) dX4_honestiesThatFit_25 (by decide) (fun c25 => ?_) (fun c25 => ?_)
        · refine aw_inc (w := 1) dX4_honestiesThatFit_35 rfl (by decide) (by decide) ?_
          refine aw_goto (tgt := 5) dX4_honestiesThatFit_38 (by decide) ?_
          exact aw_loc [0, 1, 2, 3, 4] (ls2 := [(0, .ref (t + 13)), (1, .ref t), (2, .int p), (3, .int a), (4, .int (nI (j + 1)))]) (by first | (rw [nI_succ]; rfl) | rfl) (ih (j + 1) a (by omega)  (heq.trans (congrArg (lpBits (fun j => nFit T p (trG 0 T p) (nI j)) k (j + 1)) (if_pos c25))))
        · refine aw_iload_n dX4_honestiesThatFit_28 rfl ?_
          refine aw_iconst (v := 1) dX4_honestiesThatFit_29 (by decide) ?_
          refine aw_iload dX4_honestiesThatFit_30 rfl ?_
          refine aw_ishl dX4_honestiesThatFit_32 ?_
          refine aw_ior dX4_honestiesThatFit_33 ?_
          refine aw_istore_n dX4_honestiesThatFit_34 (by decide) ?_
          refine aw_inc (w := 1) dX4_honestiesThatFit_35 rfl (by decide) (by decide) ?_
          refine aw_goto (tgt := 5) dX4_honestiesThatFit_38 (by decide) ?_
          exact aw_loc [0, 1, 2, 3, 4] (ls2 := [(0, .ref (t + 13)), (1, .ref t), (2, .int p), (3, .int (a ||| (1 <<< (nI j &&& 31)))), (4, .int (nI (j + 1)))]) (by first | (rw [nI_succ]; rfl) | rfl) (ih (j + 1) (a ||| (1 <<< (nI j &&& 31))) (by omega)  (heq.trans (congrArg (lpBits (fun j => nFit T p (trG 0 T p) (nI j)) k (j + 1)) (if_neg c25))))
  exact aw_loc [0, 1, 2, 3, 4] (ls2 := [(0, .ref (t + 13)), (1, .ref t), (2, .int p), (3, .int 0), (4, .int (nI 0))]) rfl (key (13) 0 0 (by first | rfl | omega)  rfl)
set_option maxHeartbeats 1000000 in
set_option maxRecDepth 100000 in
theorem tX4_mostAlike {l : Launch} {E : aw_E} {d n t : Nat} {h : ah} {T : sT} (hT : is_tr h t T) {b n' h' : Int32} : am l E mX4_mostAlike (d + 4) 0 0 [.ref t, .int b, .int n', .int h'] n h (aw_eq n h (some (.int (nAlike (T 10 1) b n' h')))) := by
  refine am_of (by decide +kernel) (Nat.le_of_ble_eq_true rfl) ?_
  refine aw_iconst (v := 0) dX4_mostAlike_0 (by decide) ?_
  refine aw_istore dX4_mostAlike_1 (by decide) ?_
  refine aw_iconst (v := 0) dX4_mostAlike_3 (by decide) ?_
  refine aw_istore dX4_mostAlike_4 (by decide) ?_
  have key : ∀ (k j : Nat) (m : Int32), j + k = 6 → nAlike (T 10 1) b n' h' = aMost (T 10 1) b n' h' k j m → aw l E mX4_mostAlike (aw_Z E (aw_eq n h (some (.int (nAlike (T 10 1) b n' h'))))) (d + 4) 0 0 6 [(0, .ref t), (1, .int b), (2, .int n'), (3, .int h'), (4, .int m), (5, .int (nI j))] [] n h := by
    intro k
    induction k with
    | zero =>
      intro j m hj  heq
      refine aw_iload dX4_mostAlike_6 rfl ?_
      refine aw_bipush (v := 6) dX4_mostAlike_8 (by decide) ?_
      refine aw_icmp_ge (tgt := 99) dX4_mostAlike_10 (by decide) (fun c10 => ?_) (fun c10 => ?_)
      · refine aw_iload dX4_mostAlike_99 rfl ?_
        exact aw_iret dX4_mostAlike_101 rfl (⟨congrArg (fun z => some (Value.int z)) heq, rfl, rfl⟩)
      · exact absurd ((nI_leI (a := 6) (b := j) (by omega) (by omega)).mpr (by omega)) c10
    | succ k ih =>
      intro j m hj  heq
      refine aw_iload dX4_mostAlike_6 rfl ?_
      refine aw_bipush (v := 6) dX4_mostAlike_8 (by decide) ?_
      refine aw_icmp_ge (tgt := 99) dX4_mostAlike_10 (by decide) (fun c10 => ?_) (fun c10 => ?_)
      · exact absurd ((nI_leI (a := 6) (b := j) (by omega) (by omega)).mp c10) (by omega)
      · refine aw_iconst (v := 0) dX4_mostAlike_13 (by decide) ?_
        refine aw_istore dX4_mostAlike_14 (by decide) ?_
        refine aw_aload_n dX4_mostAlike_16 rfl ?_
        refine aw_iload dX4_mostAlike_17 rfl ?_
        refine aw_iload_n dX4_mostAlike_19 rfl ?_
        refine aw_iload_n dX4_mostAlike_20 rfl ?_
        refine aw_aload_n dX4_mostAlike_21 rfl ?_
        refine aw_callV0p dX4_mostAlike_22 cmX9_today cvX4_51 (tr_c0 hT) (Nat.le_of_ble_eq_true rfl) (tX9_today hT) ?_
        refine aw_callV4p dX4_mostAlike_25 cmX9_weightBy cvX4_47 (tr_c0 hT) (Nat.le_of_ble_eq_true rfl) (tX9_weightBy hT) ?_
        refine aw_istore dX4_mostAlike_28 (by decide) ?_
        refine aw_iconst (v := 0) dX4_mostAlike_30 (by decide) ?_
        refine aw_istore dX4_mostAlike_31 (by decide) ?_
        have key2 : ∀ (k2 j2 : Nat) (c : Int32), j2 + k2 = 6 → aCnt (T 10 1) b n' h' (kW (nI j) n' h' (T 10 1)) 6 0 0 = aCnt (T 10 1) b n' h' (kW (nI j) n' h' (T 10 1)) k2 j2 c → aw l E mX4_mostAlike (aw_Z E (aw_eq n h (some (.int (nAlike (T 10 1) b n' h'))))) (d + 4) 0 0 33 [(0, .ref t), (1, .int b), (2, .int n'), (3, .int h'), (4, .int m), (5, .int (nI j)), (6, .int c), (7, .int (kW (nI j) n' h' (T 10 1))), (8, .int (nI j2))] [] n h := by
          intro k2
          induction k2 with
          | zero =>
            intro j2 c hj2  heq2
            refine aw_iload dX4_mostAlike_33 rfl ?_
            refine aw_bipush (v := 6) dX4_mostAlike_35 (by decide) ?_
            refine aw_icmp_ge (tgt := 75) dX4_mostAlike_37 (by decide) (fun c37 => ?_) (fun c37 => ?_)
            · refine aw_iload_n dX4_mostAlike_75 rfl ?_
              refine aw_iload dX4_mostAlike_76 rfl ?_
              refine aw_ishr dX4_mostAlike_78 ?_
              refine aw_iconst (v := 1) dX4_mostAlike_79 (by decide) ?_
              refine aw_iand dX4_mostAlike_80 ?_
              refine aw_if_eq (tgt := 93) dX4_mostAlike_81 (by decide) (fun c81 => ?_) (fun c81 => ?_)
              · refine aw_inc (w := 1) dX4_mostAlike_93 rfl (by decide) (by decide) ?_
                refine aw_goto (tgt := 6) dX4_mostAlike_96 (by decide) ?_
                exact aw_loc [0, 1, 2, 3, 4, 5] (ls2 := [(0, .ref t), (1, .int b), (2, .int n'), (3, .int h'), (4, .int m), (5, .int (nI (j + 1)))]) (by first | (rw [nI_succ]; rfl) | rfl) (ih (j + 1) m (by omega)  (heq.trans (congrArg (aMost (T 10 1) b n' h' k (j + 1)) (if_pos c81))))
              · refine aw_iload dX4_mostAlike_84 rfl ?_
                refine aw_iload dX4_mostAlike_86 rfl ?_
                refine aw_mmax dX4_mostAlike_88 mmX4_55 (Nat.le_of_ble_eq_true rfl) ?_
                refine aw_istore dX4_mostAlike_91 (by decide) ?_
                refine aw_inc (w := 1) dX4_mostAlike_93 rfl (by decide) (by decide) ?_
                refine aw_goto (tgt := 6) dX4_mostAlike_96 (by decide) ?_
                exact aw_loc [0, 1, 2, 3, 4, 5] (ls2 := [(0, .ref t), (1, .int b), (2, .int n'), (3, .int h'), (4, .int (iMax m c)), (5, .int (nI (j + 1)))]) (by first | (rw [nI_succ]; rfl) | rfl) (ih (j + 1) (iMax m c) (by omega)  (heq.trans (congrArg (aMost (T 10 1) b n' h' k (j + 1)) ((if_neg c81).trans (congrArg (iMax m) heq2)))))
            · exact absurd ((nI_leI (a := 6) (b := j2) (by omega) (by omega)).mpr (by omega)) c37
          | succ k2 ih2 =>
            intro j2 c hj2  heq2
            refine aw_iload dX4_mostAlike_33 rfl ?_
            refine aw_bipush (v := 6) dX4_mostAlike_35 (by decide) ?_
            refine aw_icmp_ge (tgt := 75) dX4_mostAlike_37 (by decide) (fun c37 => ?_) (fun c37 => ?_)
            · exact absurd ((nI_leI (a := 6) (b := j2) (by omega) (by omega)).mp c37) (by omega)
            · refine aw_iload_n dX4_mostAlike_40 rfl ?_
              refine aw_iload dX4_mostAlike_41 rfl ?_
              refine aw_ishr dX4_mostAlike_43 ?_
              refine aw_iconst (v := 1) dX4_mostAlike_44 (by decide) ?_
              refine aw_iand dX4_mostAlike_45 ?_
              refine aw_if_eq (tgt := 69) dX4_mostAlike_46 (by decide) (fun c46 => ?_) (fun c46 => ?_)
              · refine aw_inc (w := 1) dX4_mostAlike_69 rfl (by decide) (by decide) ?_
                refine aw_goto (tgt := 33) dX4_mostAlike_72 (by decide) ?_
                exact aw_loc [0, 1, 2, 3, 4, 5, 6, 7, 8] (ls2 := [(0, .ref t), (1, .int b), (2, .int n'), (3, .int h'), (4, .int m), (5, .int (nI j)), (6, .int c), (7, .int (kW (nI j) n' h' (T 10 1))), (8, .int (nI (j2 + 1)))]) (by first | (rw [nI_succ]; rfl) | rfl) (ih2 (j2 + 1) c (by omega)  (heq2.trans (congrArg (aCnt (T 10 1) b n' h' (kW (nI j) n' h' (T 10 1)) k2 (j2 + 1)) (if_pos c46))))
              · refine aw_aload_n dX4_mostAlike_49 rfl ?_
                refine aw_iload dX4_mostAlike_50 rfl ?_
                refine aw_iload_n dX4_mostAlike_52 rfl ?_
                refine aw_iload_n dX4_mostAlike_53 rfl ?_
                refine aw_aload_n dX4_mostAlike_54 rfl ?_
                refine aw_callV0p dX4_mostAlike_55 cmX9_today cvX4_51 (tr_c0 hT) (Nat.le_of_ble_eq_true rfl) (tX9_today hT) ?_
                refine aw_callV4p dX4_mostAlike_58 cmX9_weightBy cvX4_47 (tr_c0 hT) (Nat.le_of_ble_eq_true rfl) (tX9_weightBy hT) ?_
                refine aw_iload dX4_mostAlike_61 rfl ?_
                refine aw_icmp_ne (tgt := 69) dX4_mostAlike_63 (by decide) (fun c63 => ?_) (fun c63 => ?_)
                · refine aw_inc (w := 1) dX4_mostAlike_69 rfl (by decide) (by decide) ?_
                  refine aw_goto (tgt := 33) dX4_mostAlike_72 (by decide) ?_
                  exact aw_loc [0, 1, 2, 3, 4, 5, 6, 7, 8] (ls2 := [(0, .ref t), (1, .int b), (2, .int n'), (3, .int h'), (4, .int m), (5, .int (nI j)), (6, .int c), (7, .int (kW (nI j) n' h' (T 10 1))), (8, .int (nI (j2 + 1)))]) (by first | (rw [nI_succ]; rfl) | rfl) (ih2 (j2 + 1) c (by omega)  (heq2.trans (congrArg (aCnt (T 10 1) b n' h' (kW (nI j) n' h' (T 10 1)) k2 (j2 + 1)) ((if_neg c46).trans (if_neg c63)))))
                · refine aw_inc (w := 1) dX4_mostAlike_66 rfl (by decide) (by decide) ?_
                  refine aw_inc (w := 1) dX4_mostAlike_69 rfl (by decide) (by decide) ?_
                  refine aw_goto (tgt := 33) dX4_mostAlike_72 (by decide) ?_
                  exact aw_loc [0, 1, 2, 3, 4, 5, 6, 7, 8] (ls2 := [(0, .ref t), (1, .int b), (2, .int n'), (3, .int h'), (4, .int m), (5, .int (nI j)), (6, .int (c + 1)), (7, .int (kW (nI j) n' h' (T 10 1))), (8, .int (nI (j2 + 1)))]) (by first | (rw [nI_succ]; rfl) | rfl) (ih2 (j2 + 1) (c + 1) (by omega)  (heq2.trans (congrArg (aCnt (T 10 1) b n' h' (kW (nI j) n' h' (T 10 1)) k2 (j2 + 1)) ((if_neg c46).trans (if_pos c63)))))
        exact aw_loc [0, 1, 2, 3, 4, 5, 6, 7, 8] (ls2 := [(0, .ref t), (1, .int b), (2, .int n'), (3, .int h'), (4, .int m), (5, .int (nI j)), (6, .int 0), (7, .int (kW (nI j) n' h' (T 10 1))), (8, .int (nI 0))]) rfl (key2 (6) 0 0 (by first | rfl | omega)  rfl)
  exact aw_loc [0, 1, 2, 3, 4, 5] (ls2 := [(0, .ref t), (1, .int b), (2, .int n'), (3, .int h'), (4, .int 0), (5, .int (nI 0))]) rfl (key (6) 0 0 (by first | rfl | omega)  rfl)
set_option maxHeartbeats 1000000 in
set_option maxRecDepth 100000 in
theorem tX4_bestWeighing {l : Launch} {E : aw_E} {d n t : Nat} {h : ah} {T : sT} (hT : is_tr h t T) {b h' : Int32} : am l E mX4_bestWeighing (d + 5) 0 0 [.ref t, .int b, .int h'] n h (aw_eq n h (some (.int (nBestW (T 10 1) b h')))) := by
  refine am_of (by decide +kernel) (Nat.le_of_ble_eq_true rfl) ?_
  refine aw_iload_n dX4_bestWeighing_0 rfl ?_
  refine aw_if_ne (tgt := 6) dX4_bestWeighing_1 (by decide) (fun c1 => ?_) (fun c1 => ?_)
  · refine aw_iconst (v := 0) dX4_bestWeighing_6 (by decide) ?_
    refine aw_istore_n dX4_bestWeighing_7 (by decide) ?_
    refine aw_bipush (v := 7) dX4_bestWeighing_8 (by decide) ?_
    refine aw_istore dX4_bestWeighing_10 (by decide) ?_
    refine aw_iconst (v := 0) dX4_bestWeighing_12 (by decide) ?_
    refine aw_istore dX4_bestWeighing_13 (by decide) ?_
    have key : ∀ (k j : Nat) (x f : Int32), j + k = 21 → nBest (T 10 1) b h' 21 0 0 7 = nBest (T 10 1) b h' k j x f → aw l E mX4_bestWeighing (aw_Z E (aw_eq n h (some (.int (nBestW (T 10 1) b h'))))) (d + 5) 0 0 15 [(0, .ref t), (1, .int b), (2, .int h'), (3, .int x), (4, .int f), (5, .int (nI j))] [] n h := by
      intro k
      induction k with
      | zero =>
        intro j x f hj  heq
        refine aw_iload dX4_bestWeighing_15 rfl ?_
        refine aw_bipush (v := 20) dX4_bestWeighing_17 (by decide) ?_
        refine aw_icmp_gt (tgt := 52) dX4_bestWeighing_19 (by decide) (fun c19 => ?_) (fun c19 => ?_)
        · refine aw_iload_n dX4_bestWeighing_52 rfl ?_
          exact aw_iret dX4_bestWeighing_53 rfl (⟨congrArg (fun z => some (Value.int z)) ((if_neg c1).trans heq), rfl, rfl⟩)
        · exact absurd ((nI_ltI (a := 20) (b := j) (by omega) (by omega)).mpr (by omega)) c19
      | succ k ih =>
        intro j x f hj  heq
        refine aw_iload dX4_bestWeighing_15 rfl ?_
        refine aw_bipush (v := 20) dX4_bestWeighing_17 (by decide) ?_
        refine aw_icmp_gt (tgt := 52) dX4_bestWeighing_19 (by decide) (fun c19 => ?_) (fun c19 => ?_)
        · exact absurd ((nI_ltI (a := 20) (b := j) (by omega) (by omega)).mp c19) (by omega)
        · refine aw_aload_n dX4_bestWeighing_22 rfl ?_
          refine aw_iload_n dX4_bestWeighing_23 rfl ?_
          refine aw_iload dX4_bestWeighing_24 rfl ?_
          refine aw_iload_n dX4_bestWeighing_26 rfl ?_
          refine aw_callS4p dX4_bestWeighing_27 cmX4_mostAlike csX4_41 (Nat.le_of_ble_eq_true rfl) (tX4_mostAlike hT) ?_
          refine aw_istore dX4_bestWeighing_30 (by decide) ?_
          refine aw_iload dX4_bestWeighing_32 rfl ?_
          refine aw_iload dX4_bestWeighing_34 rfl ?_
          refine aw_icmp_ge (tgt := 46) dX4_bestWeighing_36 (by decide) (fun c36 => ?_) (fun c36 => ?_)
          · refine aw_inc (w := 1) dX4_bestWeighing_46 rfl (by decide) (by decide) ?_
            refine aw_goto (tgt := 15) dX4_bestWeighing_49 (by decide) ?_
            exact aw_loc [0, 1, 2, 3, 4, 5] (ls2 := [(0, .ref t), (1, .int b), (2, .int h'), (3, .int x), (4, .int f), (5, .int (nI (j + 1)))]) (by first | (rw [nI_succ]; rfl) | rfl) (ih (j + 1) x f (by omega)  (heq.trans (if_pos c36)))
          · refine aw_iload dX4_bestWeighing_39 rfl ?_
            refine aw_istore dX4_bestWeighing_41 (by decide) ?_
            refine aw_iload dX4_bestWeighing_43 rfl ?_
            refine aw_istore_n dX4_bestWeighing_45 (by decide) ?_
            refine aw_inc (w := 1) dX4_bestWeighing_46 rfl (by decide) (by decide) ?_
            refine aw_goto (tgt := 15) dX4_bestWeighing_49 (by decide) ?_
            exact aw_loc [0, 1, 2, 3, 4, 5] (ls2 := [(0, .ref t), (1, .int b), (2, .int h'), (3, .int (nI j)), (4, .int (nAlike (T 10 1) b (nI j) h')), (5, .int (nI (j + 1)))]) (by first | (rw [nI_succ]; rfl) | rfl) (ih (j + 1) (nI j) (nAlike (T 10 1) b (nI j) h') (by omega)  (heq.trans (if_neg c36)))
    exact aw_loc [0, 1, 2, 3, 4, 5] (ls2 := [(0, .ref t), (1, .int b), (2, .int h'), (3, .int 0), (4, .int 7), (5, .int (nI 0))]) rfl (key (21) 0 0 7 (by first | rfl | omega)  rfl)
  · refine aw_iconst (v := -1) dX4_bestWeighing_4 (by decide) ?_
    exact aw_iret dX4_bestWeighing_5 rfl (⟨congrArg (fun z => some (Value.int z)) (if_pos c1), rfl, rfl⟩)
set_option maxHeartbeats 1000000 in
set_option maxRecDepth 100000 in
theorem tX4_mixInto {l : Launch} {E : aw_E} {d n t : Nat} {h : ah} {T : sT} (hT : is_tr h t T) {y : Int64} : am l E mX4_mixInto d 0 0 [.ref (t + 13), .long y] n h (aw_eq n h (some (.long (nMix T (nN T) 0 y)))) := by
  refine am_of (by decide +kernel) (Nat.le_of_ble_eq_true rfl) ?_
  refine aw_lload_n dX4_mixInto_0 rfl ?_
  refine aw_lstore_n dX4_mixInto_1 (by decide) ?_
  refine aw_iconst (v := 0) dX4_mixInto_2 (by decide) ?_
  refine aw_istore dX4_mixInto_3 (by decide) ?_
  have hN1 := clamp_lt (T 10 3)
  have hNN : nN T = min (T 10 3).toNatClampNeg 6 := rfl
  have key : ∀ (k j : Nat) (x : Int64), j + k = nN T → nMix T (nN T) 0 y = nMix T k j x → aw l E mX4_mixInto (aw_Z E (aw_eq n h (some (.long (nMix T (nN T) 0 y))))) d 0 0 5 [(0, .ref (t + 13)), (3, .long x), (5, .int (nI j))] [] n h := by
    intro k
    induction k with
    | zero =>
      intro j x hj  heq
      refine aw_iload dX4_mixInto_5 rfl ?_
      refine aw_aload_n dX4_mixInto_7 rfl ?_
      refine aw_get dX4_mixInto_8 flX4_24 (tr_c13 hT) rfl ?_
      refine aw_icmp_ge (tgt := 87) dX4_mixInto_11 (by decide) (fun c11 => ?_) (fun c11 => ?_)
      · refine aw_lload_n dX4_mixInto_87 rfl ?_
        exact aw_lret dX4_mixInto_88 rfl (⟨congrArg (fun z => some (Value.long z)) heq, rfl, rfl⟩)
      · refine aw_iload dX4_mixInto_14 rfl ?_
        refine aw_bipush (v := 6) dX4_mixInto_16 (by decide) ?_
        refine aw_icmp_ge (tgt := 87) dX4_mixInto_18 (by decide) (fun c18 => ?_) (fun c18 => ?_)
        · refine aw_lload_n dX4_mixInto_87 rfl ?_
          exact aw_lret dX4_mixInto_88 rfl (⟨congrArg (fun z => some (Value.long z)) heq, rfl, rfl⟩)
        · have q1 := mt (i_le_nI (x := T 10 3) (j := j) (by omega)).mpr c11
          have q2 := mt (nI_leI (a := 6) (b := j) (by omega) (by omega)).mpr c18
          omega
    | succ k ih =>
      intro j x hj  heq
      refine aw_iload dX4_mixInto_5 rfl ?_
      refine aw_aload_n dX4_mixInto_7 rfl ?_
      refine aw_get dX4_mixInto_8 flX4_24 (tr_c13 hT) rfl ?_
      refine aw_icmp_ge (tgt := 87) dX4_mixInto_11 (by decide) (fun c11 => ?_) (fun c11 => ?_)
      · exact absurd ((i_le_nI (x := T 10 3) (j := j) (by omega)).mp c11) (by omega)
      · refine aw_iload dX4_mixInto_14 rfl ?_
        refine aw_bipush (v := 6) dX4_mixInto_16 (by decide) ?_
        refine aw_icmp_ge (tgt := 87) dX4_mixInto_18 (by decide) (fun c18 => ?_) (fun c18 => ?_)
        · exact absurd ((nI_leI (a := 6) (b := j) (by omega) (by omega)).mp c18) (by omega)
        · refine aw_ldc2 dX4_mixInto_21 klX4_45 ?_
          refine aw_lload_n dX4_mixInto_24 rfl ?_
          refine aw_lmul dX4_mixInto_25 ?_
          refine aw_aload_n dX4_mixInto_26 rfl ?_
          refine aw_get dX4_mixInto_27 flX4_9 (tr_c13 hT) rfl ?_
          refine aw_iload dX4_mixInto_30 rfl ?_
          refine aw_ialdN dX4_mixInto_32 (tr_c14 hT) rfl (by omega) (by decide) ?_
          refine aw_i2l dX4_mixInto_33 rfl ?_
          refine aw_ladd dX4_mixInto_34 ?_
          refine aw_lstore_n dX4_mixInto_35 (by decide) ?_
          refine aw_ldc2 dX4_mixInto_36 klX4_45 ?_
          refine aw_lload_n dX4_mixInto_39 rfl ?_
          refine aw_lmul dX4_mixInto_40 ?_
          refine aw_aload_n dX4_mixInto_41 rfl ?_
          refine aw_get dX4_mixInto_42 flX4_15 (tr_c13 hT) rfl ?_
          refine aw_iload dX4_mixInto_45 rfl ?_
          refine aw_ialdN dX4_mixInto_47 (tr_c15 hT) rfl (by omega) (by decide) ?_
          refine aw_i2l dX4_mixInto_48 rfl ?_
          refine aw_ladd dX4_mixInto_49 ?_
          refine aw_lstore_n dX4_mixInto_50 (by decide) ?_
          refine aw_ldc2 dX4_mixInto_51 klX4_45 ?_
          refine aw_lload_n dX4_mixInto_54 rfl ?_
          refine aw_lmul dX4_mixInto_55 ?_
          refine aw_aload_n dX4_mixInto_56 rfl ?_
          refine aw_get dX4_mixInto_57 flX4_18 (tr_c13 hT) rfl ?_
          refine aw_iload dX4_mixInto_60 rfl ?_
          refine aw_ialdN dX4_mixInto_62 (tr_c16 hT) rfl (by omega) (by decide) ?_
          refine aw_i2l dX4_mixInto_63 rfl ?_
          refine aw_ladd dX4_mixInto_64 ?_
          refine aw_lstore_n dX4_mixInto_65 (by decide) ?_
          refine aw_ldc2 dX4_mixInto_66 klX4_45 ?_
          refine aw_lload_n dX4_mixInto_69 rfl ?_
          refine aw_lmul dX4_mixInto_70 ?_
          refine aw_aload_n dX4_mixInto_71 rfl ?_
          refine aw_get dX4_mixInto_72 flX4_21 (tr_c13 hT) rfl ?_
          refine aw_iload dX4_mixInto_75 rfl ?_
          refine aw_ialdN dX4_mixInto_77 (tr_c17 hT) rfl (by omega) (by decide) ?_
          refine aw_i2l dX4_mixInto_78 rfl ?_
          refine aw_ladd dX4_mixInto_79 ?_
          refine aw_lstore_n dX4_mixInto_80 (by decide) ?_
          refine aw_inc (w := 1) dX4_mixInto_81 rfl (by decide) (by decide) ?_
          refine aw_goto (tgt := 5) dX4_mixInto_84 (by decide) ?_
          exact aw_loc [0, 3, 5] (ls2 := [(0, .ref (t + 13)), (3, .long _), (5, .int (nI (j + 1)))]) (by first | (rw [nI_succ]; rfl) | rfl) (ih (j + 1) _ (by omega)  heq)
  exact aw_loc [0, 3, 5] (ls2 := [(0, .ref (t + 13)), (3, .long y), (5, .int (nI 0))]) rfl (key (nN T) 0 y (by first | rfl | omega)  rfl)
set_option maxHeartbeats 1000000 in
set_option maxRecDepth 100000 in
theorem tX9_mixInto {l : Launch} {E : aw_E} {d n t : Nat} {h : ah} {T : sT} (hT : is_tr h t T) {y : Int64} : am l E mX9_mixInto (d + 2) 0 0 [.ref t, .long y] n h (aw_eq n h (some (.long (trMixF T y)))) := by
  refine am_of (by decide +kernel) (Nat.le_of_ble_eq_true rfl) ?_
  refine aw_lload_n dX9_mixInto_0 rfl ?_
  refine aw_lstore_n dX9_mixInto_1 (by decide) ?_
  refine aw_iconst (v := 0) dX9_mixInto_2 (by decide) ?_
  refine aw_istore dX9_mixInto_3 (by decide) ?_
  have hN1 := clamp_lt (T 10 0)
  have key : ∀ (k j : Nat) (x : Int64), j + k = (T 10 0).toNatClampNeg → trMix T (T 10 0).toNatClampNeg 0 y = trMix T k j x → aw l E mX9_mixInto (aw_Z E (aw_eq n h (some (.long (trMixF T y))))) (d + 2) 0 0 5 [(0, .ref t), (3, .long x), (5, .int (nI j))] [] n h := by
    intro k
    induction k with
    | zero =>
      intro j x hj  heq
      refine aw_iload dX9_mixInto_5 rfl ?_
      refine aw_aload_n dX9_mixInto_7 rfl ?_
      refine aw_get dX9_mixInto_8 flX9_67 (tr_c0 hT) rfl ?_
      refine aw_icmp_ge (tgt := 104) dX9_mixInto_11 (by decide) (fun c11 => ?_) (fun c11 => ?_)
      · refine aw_aload_n dX9_mixInto_104 rfl ?_
        refine aw_get dX9_mixInto_105 flX9_56 (tr_c0 hT) rfl ?_
        refine aw_lload_n dX9_mixInto_108 rfl ?_
        refine aw_callV1p dX9_mixInto_109 cmX4_mixInto cvX9_165 (tr_c13 hT) (Nat.le_of_ble_eq_true rfl) (tX4_mixInto hT) ?_
        exact aw_lret dX9_mixInto_112 rfl (⟨congrArg (fun z => some (Value.long (nMix T (nN T) 0 z))) heq, rfl, rfl⟩)
      · exact absurd ((i_le_nI (x := T 10 0) (j := j) (by omega)).mpr (by omega)) c11
    | succ k ih =>
      intro j x hj  heq
      refine aw_iload dX9_mixInto_5 rfl ?_
      refine aw_aload_n dX9_mixInto_7 rfl ?_
      refine aw_get dX9_mixInto_8 flX9_67 (tr_c0 hT) rfl ?_
      refine aw_icmp_ge (tgt := 104) dX9_mixInto_11 (by decide) (fun c11 => ?_) (fun c11 => ?_)
      · exact absurd ((i_le_nI (x := T 10 0) (j := j) (by omega)).mp c11) (by omega)
      · refine aw_ldc2 dX9_mixInto_14 klX9_154 ?_
        refine aw_lload_n dX9_mixInto_17 rfl ?_
        refine aw_lmul dX9_mixInto_18 ?_
        refine aw_aload_n dX9_mixInto_19 rfl ?_
        refine aw_iload dX9_mixInto_20 rfl ?_
        refine aw_callV1p dX9_mixInto_22 cmX9_kindOf cvX9_138 (tr_c0 hT) (Nat.le_of_ble_eq_true rfl) (tX9_kindOf hT) ?_
        refine aw_i2l dX9_mixInto_25 rfl ?_
        refine aw_ladd dX9_mixInto_26 ?_
        refine aw_lstore_n dX9_mixInto_27 (by decide) ?_
        refine aw_ldc2 dX9_mixInto_28 klX9_154 ?_
        refine aw_lload_n dX9_mixInto_31 rfl ?_
        refine aw_lmul dX9_mixInto_32 ?_
        refine aw_aload_n dX9_mixInto_33 rfl ?_
        refine aw_iload dX9_mixInto_34 rfl ?_
        refine aw_callV1p dX9_mixInto_36 cmX9_honestyOf cvX9_141 (tr_c0 hT) (Nat.le_of_ble_eq_true rfl) (tX9_honestyOf hT) ?_
        refine aw_i2l dX9_mixInto_39 rfl ?_
        refine aw_ladd dX9_mixInto_40 ?_
        refine aw_lstore_n dX9_mixInto_41 (by decide) ?_
        refine aw_ldc2 dX9_mixInto_42 klX9_154 ?_
        refine aw_lload_n dX9_mixInto_45 rfl ?_
        refine aw_lmul dX9_mixInto_46 ?_
        refine aw_aload_n dX9_mixInto_47 rfl ?_
        refine aw_iload dX9_mixInto_48 rfl ?_
        refine aw_callV1p dX9_mixInto_50 cmX9_piecesOf cvX9_98 (tr_c0 hT) (Nat.le_of_ble_eq_true rfl) (tX9_piecesOf hT) ?_
        refine aw_i2l dX9_mixInto_53 rfl ?_
        refine aw_ladd dX9_mixInto_54 ?_
        refine aw_lstore_n dX9_mixInto_55 (by decide) ?_
        refine aw_ldc2 dX9_mixInto_56 klX9_154 ?_
        refine aw_lload_n dX9_mixInto_59 rfl ?_
        refine aw_lmul dX9_mixInto_60 ?_
        refine aw_aload_n dX9_mixInto_61 rfl ?_
        refine aw_iload dX9_mixInto_62 rfl ?_
        refine aw_callV1p dX9_mixInto_64 cmX9_payOf cvX9_156 (tr_c0 hT) (Nat.le_of_ble_eq_true rfl) (tX9_payOf hT) ?_
        refine aw_i2l dX9_mixInto_67 rfl ?_
        refine aw_ladd dX9_mixInto_68 ?_
        refine aw_lstore_n dX9_mixInto_69 (by decide) ?_
        refine aw_ldc2 dX9_mixInto_70 klX9_154 ?_
        refine aw_lload_n dX9_mixInto_73 rfl ?_
        refine aw_lmul dX9_mixInto_74 ?_
        refine aw_aload_n dX9_mixInto_75 rfl ?_
        refine aw_iload dX9_mixInto_76 rfl ?_
        refine aw_callV1p dX9_mixInto_78 cmX9_liedOf cvX9_159 (tr_c0 hT) (Nat.le_of_ble_eq_true rfl) (tX9_liedOf hT) ?_
        refine aw_i2l dX9_mixInto_81 rfl ?_
        refine aw_ladd dX9_mixInto_82 ?_
        refine aw_lstore_n dX9_mixInto_83 (by decide) ?_
        refine aw_ldc2 dX9_mixInto_84 klX9_154 ?_
        refine aw_lload_n dX9_mixInto_87 rfl ?_
        refine aw_lmul dX9_mixInto_88 ?_
        refine aw_aload_n dX9_mixInto_89 rfl ?_
        refine aw_iload dX9_mixInto_90 rfl ?_
        refine aw_callV1p dX9_mixInto_92 cmX9_handsOf cvX9_162 (tr_c0 hT) (Nat.le_of_ble_eq_true rfl) (tX9_handsOf hT) ?_
        refine aw_i2l dX9_mixInto_95 rfl ?_
        refine aw_ladd dX9_mixInto_96 ?_
        refine aw_lstore_n dX9_mixInto_97 (by decide) ?_
        refine aw_inc (w := 1) dX9_mixInto_98 rfl (by decide) (by decide) ?_
        refine aw_goto (tgt := 5) dX9_mixInto_101 (by decide) ?_
        exact aw_loc [0, 3, 5] (ls2 := [(0, .ref t), (3, .long _), (5, .int (nI (j + 1)))]) (by first | (rw [nI_succ]; rfl) | rfl) (ih (j + 1) _ (by omega)  heq)
  exact aw_loc [0, 3, 5] (ls2 := [(0, .ref t), (3, .long y), (5, .int (nI 0))]) rfl (key ((T 10 0).toNatClampNeg) 0 y (by first | rfl | omega)  rfl)
set_option maxHeartbeats 1000000 in
set_option maxRecDepth 100000 in
theorem tX10_heftOf {l : Launch} {E : aw_E} {d n w : Nat} {h : ah} {V : sT} (hW : is_wy h w V) {r : Int32} : am l E mX10_heftOf d 0 0 [.ref w, .int r] n h (aw_eq n h (some (.int (wHeft V r)))) := by
  refine am_of (by decide +kernel) (Nat.le_of_ble_eq_true rfl) ?_
  refine aw_iload_n dX10_heftOf_0 rfl ?_
  refine aw_if_lt (tgt := 19) dX10_heftOf_1 (by decide) (fun c1 => ?_) (fun c1 => ?_)
  · refine aw_iconst (v := -1) dX10_heftOf_19 (by decide) ?_
    exact aw_iret dX10_heftOf_20 rfl (⟨congrArg (fun z => some (Value.int z)) (if_pos c1), rfl, rfl⟩)
  · refine aw_iload_n dX10_heftOf_4 rfl ?_
    refine aw_bipush (v := 6) dX10_heftOf_5 (by decide) ?_
    refine aw_icmp_ge (tgt := 19) dX10_heftOf_7 (by decide) (fun c7 => ?_) (fun c7 => ?_)
    · refine aw_iconst (v := -1) dX10_heftOf_19 (by decide) ?_
      exact aw_iret dX10_heftOf_20 rfl (⟨congrArg (fun z => some (Value.int z)) ((if_neg c1).trans (if_pos c7)), rfl, rfl⟩)
    · refine aw_aload_n dX10_heftOf_10 rfl ?_
      refine aw_get dX10_heftOf_11 flX10_9 (wy_c0 hW) rfl ?_
      refine aw_iload_n dX10_heftOf_14 rfl ?_
      refine aw_iald dX10_heftOf_15 (wy_c1 hW) (vp_in_ofN (N := 6) c1 c7 (by decide)) ?_
      refine aw_goto (tgt := 20) dX10_heftOf_16 (by decide) ?_
      exact aw_iret dX10_heftOf_20 rfl (⟨congrArg (fun z => some (Value.int z)) ((if_neg c1).trans (if_neg c7)), rfl, rfl⟩)
set_option maxHeartbeats 1000000 in
set_option maxRecDepth 100000 in
theorem tX10_farOf {l : Launch} {E : aw_E} {d n w : Nat} {h : ah} {V : sT} (hW : is_wy h w V) {r : Int32} : am l E mX10_farOf d 0 0 [.ref w, .int r] n h (aw_eq n h (some (.int (wFar V r)))) := by
  refine am_of (by decide +kernel) (Nat.le_of_ble_eq_true rfl) ?_
  refine aw_iload_n dX10_farOf_0 rfl ?_
  refine aw_if_lt (tgt := 19) dX10_farOf_1 (by decide) (fun c1 => ?_) (fun c1 => ?_)
  · refine aw_bipush (v := 99) dX10_farOf_19 (by decide) ?_
    exact aw_iret dX10_farOf_21 rfl (⟨congrArg (fun z => some (Value.int z)) (if_pos c1), rfl, rfl⟩)
  · refine aw_iload_n dX10_farOf_4 rfl ?_
    refine aw_bipush (v := 6) dX10_farOf_5 (by decide) ?_
    refine aw_icmp_ge (tgt := 19) dX10_farOf_7 (by decide) (fun c7 => ?_) (fun c7 => ?_)
    · refine aw_bipush (v := 99) dX10_farOf_19 (by decide) ?_
      exact aw_iret dX10_farOf_21 rfl (⟨congrArg (fun z => some (Value.int z)) ((if_neg c1).trans (if_pos c7)), rfl, rfl⟩)
    · refine aw_aload_n dX10_farOf_10 rfl ?_
      refine aw_get dX10_farOf_11 flX10_15 (wy_c0 hW) rfl ?_
      refine aw_iload_n dX10_farOf_14 rfl ?_
      refine aw_iald dX10_farOf_15 (wy_c2 hW) (vp_in_ofN (N := 6) c1 c7 (by decide)) ?_
      refine aw_goto (tgt := 21) dX10_farOf_16 (by decide) ?_
      exact aw_iret dX10_farOf_21 rfl (⟨congrArg (fun z => some (Value.int z)) ((if_neg c1).trans (if_neg c7)), rfl, rfl⟩)
set_option maxHeartbeats 1000000 in
set_option maxRecDepth 100000 in
theorem tX10_lightestOf {l : Launch} {E : aw_E} {d n w : Nat} {h : ah} {V : sT} (hW : is_wy h w V) {r : Int32} : am l E mX10_lightestOf d 0 0 [.ref w, .int r] n h (aw_eq n h (some (.int (wLight V r)))) := by
  refine am_of (by decide +kernel) (Nat.le_of_ble_eq_true rfl) ?_
  refine aw_iload_n dX10_lightestOf_0 rfl ?_
  refine aw_if_lt (tgt := 19) dX10_lightestOf_1 (by decide) (fun c1 => ?_) (fun c1 => ?_)
  · refine aw_iconst (v := -1) dX10_lightestOf_19 (by decide) ?_
    exact aw_iret dX10_lightestOf_20 rfl (⟨congrArg (fun z => some (Value.int z)) (if_pos c1), rfl, rfl⟩)
  · refine aw_iload_n dX10_lightestOf_4 rfl ?_
    refine aw_bipush (v := 64) dX10_lightestOf_5 (by decide) ?_
    refine aw_icmp_ge (tgt := 19) dX10_lightestOf_7 (by decide) (fun c7 => ?_) (fun c7 => ?_)
    · refine aw_iconst (v := -1) dX10_lightestOf_19 (by decide) ?_
      exact aw_iret dX10_lightestOf_20 rfl (⟨congrArg (fun z => some (Value.int z)) ((if_neg c1).trans (if_pos c7)), rfl, rfl⟩)
    · refine aw_aload_n dX10_lightestOf_10 rfl ?_
      refine aw_get dX10_lightestOf_11 flX10_18 (wy_c0 hW) rfl ?_
      refine aw_iload_n dX10_lightestOf_14 rfl ?_
      refine aw_iald dX10_lightestOf_15 (wy_c3 hW) (vp_in_ofN (N := 64) c1 c7 (by decide)) ?_
      refine aw_goto (tgt := 20) dX10_lightestOf_16 (by decide) ?_
      exact aw_iret dX10_lightestOf_20 rfl (⟨congrArg (fun z => some (Value.int z)) ((if_neg c1).trans (if_neg c7)), rfl, rfl⟩)
set_option maxHeartbeats 1000000 in
set_option maxRecDepth 100000 in
theorem tX10_bagWeight {l : Launch} {E : aw_E} {d n w : Nat} {h : ah} {V : sT} (hW : is_wy h w V) {r b : Int32} : am l E mX10_bagWeight d 0 0 [.ref w, .int r, .int b] n h (aw_eq n h (some (.int (wBag V r b)))) := by
  refine am_of (by decide +kernel) (Nat.le_of_ble_eq_true rfl) ?_
  refine aw_iload_n dX10_bagWeight_0 rfl ?_
  refine aw_bipush (v := 6) dX10_bagWeight_1 (by decide) ?_
  refine aw_imul dX10_bagWeight_3 ?_
  refine aw_iload_n dX10_bagWeight_4 rfl ?_
  refine aw_iadd dX10_bagWeight_5 ?_
  refine aw_istore_n dX10_bagWeight_6 (by decide) ?_
  refine aw_iload_n dX10_bagWeight_7 rfl ?_
  refine aw_if_lt (tgt := 29) dX10_bagWeight_8 (by decide) (fun c8 => ?_) (fun c8 => ?_)
  · refine aw_iconst (v := -1) dX10_bagWeight_29 (by decide) ?_
    exact aw_iret dX10_bagWeight_30 rfl (⟨congrArg (fun z => some (Value.int z)) (if_pos c8), rfl, rfl⟩)
  · refine aw_iload_n dX10_bagWeight_11 rfl ?_
    refine aw_aload_n dX10_bagWeight_12 rfl ?_
    refine aw_get dX10_bagWeight_13 flX10_21 (wy_c0 hW) rfl ?_
    refine aw_alenI (v := 36) dX10_bagWeight_16 (wy_c4 hW) rfl ?_
    refine aw_icmp_ge (tgt := 29) dX10_bagWeight_17 (by decide) (fun c17 => ?_) (fun c17 => ?_)
    · refine aw_iconst (v := -1) dX10_bagWeight_29 (by decide) ?_
      exact aw_iret dX10_bagWeight_30 rfl (⟨congrArg (fun z => some (Value.int z)) ((if_neg c8).trans (if_pos c17)), rfl, rfl⟩)
    · refine aw_aload_n dX10_bagWeight_20 rfl ?_
      refine aw_get dX10_bagWeight_21 flX10_21 (wy_c0 hW) rfl ?_
      refine aw_iload_n dX10_bagWeight_24 rfl ?_
      refine aw_iald dX10_bagWeight_25 (wy_c4 hW) (vp_in_ofN (N := 36) c8 c17 (by decide)) ?_
      refine aw_goto (tgt := 30) dX10_bagWeight_26 (by decide) ?_
      exact aw_iret dX10_bagWeight_30 rfl (⟨congrArg (fun z => some (Value.int z)) ((if_neg c8).trans (if_neg c17)), rfl, rfl⟩)
set_option maxHeartbeats 1000000 in
set_option maxRecDepth 100000 in
theorem tX10_putLightest {l : Launch} {E : aw_E} {d n w : Nat} {h0 : ah} {V0 : sT} (hW : is_wy h0 w V0) {s b : Int32} : am l E mX10_putLightest d 0 0 [.ref w, .int s, .int b] n h0 (wy_post n h0 w (none) (wPutL V0 s b)) := by
  refine am_of (by decide +kernel) (Nat.le_of_ble_eq_true rfl) ?_
  have hF : ah_off h0 h0 w 5 := ah_off.rf
  refine aw_iload_n dX10_putLightest_0 rfl ?_
  refine aw_if_lt (tgt := 17) dX10_putLightest_1 (by decide) (fun c1 => ?_) (fun c1 => ?_)
  · exact aw_vret dX10_putLightest_17 rfl (⟨rfl, rfl, is_of (P := is_wy _ w) (if_pos c1) hW, hF⟩)
  · refine aw_iload_n dX10_putLightest_4 rfl ?_
    refine aw_bipush (v := 64) dX10_putLightest_5 (by decide) ?_
    refine aw_icmp_ge (tgt := 17) dX10_putLightest_7 (by decide) (fun c7 => ?_) (fun c7 => ?_)
    · exact aw_vret dX10_putLightest_17 rfl (⟨rfl, rfl, is_of (P := is_wy _ w) ((if_neg c1).trans (if_pos c7)) hW, hF⟩)
    · refine aw_aload_n dX10_putLightest_10 rfl ?_
      refine aw_get dX10_putLightest_11 flX10_18 (wy_c0 hW) rfl ?_
      refine aw_iload_n dX10_putLightest_14 rfl ?_
      refine aw_iload_n dX10_putLightest_15 rfl ?_
      refine aw_ia_wy2 dX10_putLightest_16 hW (vp_in_ofN (N := 64) c1 c7 (by decide)) (fun h hW ho => ?_)
      have hF := hF.trans ho
      exact aw_vret dX10_putLightest_17 rfl (⟨rfl, rfl, is_of (P := is_wy _ w) ((if_neg c1).trans (if_neg c7)) hW, hF⟩)
set_option maxHeartbeats 1000000 in
set_option maxRecDepth 100000 in
theorem tX10_weighEach {l : Launch} {E : aw_E} {d n w t : Nat} {h0 : ah} {V0 T : sT} (hW : is_wy h0 w V0) (hT : is_tr h0 t T) (hdw : t + 20 ≤ w) {n' : Int32} : am l E mX10_weighEach (d + 4) 0 0 [.ref w, .ref t, .int n'] n h0 (wy_post n h0 w (none) (wEach T n' 6 0 V0)) := by
  refine am_of (by decide +kernel) (Nat.le_of_ble_eq_true rfl) ?_
  have hF : ah_off h0 h0 w 5 := ah_off.rf
  refine aw_iconst (v := 0) dX10_weighEach_0 (by decide) ?_
  refine aw_istore_n dX10_weighEach_1 (by decide) ?_
  have key : ∀ (k j : Nat) (h : ah) (V : sT), j + k = 6 → is_wy h w V → is_tr h t T → ah_off h0 h w 5 → wEach T n' 6 0 V0 = wEach T n' k j V → aw l E mX10_weighEach (aw_Z E (wy_post n h0 w (none) (wEach T n' 6 0 V0))) (d + 4) 0 0 2 [(0, .ref w), (1, .ref t), (2, .int n'), (3, .int (nI j))] [] n h := by
    intro k
    induction k with
    | zero =>
      intro j h V hj hW hT hF heq
      refine aw_iload_n dX10_weighEach_2 rfl ?_
      refine aw_bipush (v := 6) dX10_weighEach_3 (by decide) ?_
      refine aw_icmp_ge (tgt := 38) dX10_weighEach_5 (by decide) (fun c5 => ?_) (fun c5 => ?_)
      · exact aw_vret dX10_weighEach_38 rfl (⟨rfl, rfl, is_of (P := is_wy _ w) heq hW, hF⟩)
      · exact absurd ((nI_leI (a := 6) (b := j) (by omega) (by omega)).mpr (by omega)) c5
    | succ k ih =>
      intro j h V hj hW hT hF heq
      refine aw_iload_n dX10_weighEach_2 rfl ?_
      refine aw_bipush (v := 6) dX10_weighEach_3 (by decide) ?_
      refine aw_icmp_ge (tgt := 38) dX10_weighEach_5 (by decide) (fun c5 => ?_) (fun c5 => ?_)
      · exact absurd ((nI_leI (a := 6) (b := j) (by omega) (by omega)).mp c5) (by omega)
      · refine aw_aload_n dX10_weighEach_8 rfl ?_
        refine aw_get dX10_weighEach_9 flX10_9 (wy_c0 hW) rfl ?_
        refine aw_iload_n dX10_weighEach_12 rfl ?_
        refine aw_aload_n dX10_weighEach_13 rfl ?_
        refine aw_iload_n dX10_weighEach_14 rfl ?_
        refine aw_callV1p dX10_weighEach_15 cmX9_isThere cvX10_103 (tr_c0 hT) (Nat.le_of_ble_eq_true rfl) (tX9_isThere hT) ?_
        refine aw_if_eq (tgt := 30) dX10_weighEach_18 (by decide) (fun c18 => ?_) (fun c18 => ?_)
        · refine aw_iconst (v := -1) dX10_weighEach_30 (by decide) ?_
          refine aw_iN_wy0 dX10_weighEach_31 hW rfl (by omega) (fun h hW ho => ?_)
          have hT := tr_off hT ho (Or.inl hdw)
          have hF := hF.trans ho
          refine aw_inc (w := 1) dX10_weighEach_32 rfl (by decide) (by decide) ?_
          refine aw_goto (tgt := 2) dX10_weighEach_35 (by decide) ?_
          exact aw_loc [0, 1, 2, 3] (ls2 := [(0, .ref w), (1, .ref t), (2, .int n'), (3, .int (nI (j + 1)))]) (by first | (rw [nI_succ]; rfl) | rfl) (ih (j + 1) _ _ (by omega) hW hT hF (heq.trans (congrArg (fun z => wEach T n' k (j + 1) (sA V 0 (upd (V 0) j z))) (if_pos c18))))
        · refine aw_aload_n dX10_weighEach_21 rfl ?_
          refine aw_iload_n dX10_weighEach_22 rfl ?_
          refine aw_iload_n dX10_weighEach_23 rfl ?_
          refine aw_callV2p dX10_weighEach_24 cmX9_weightWith cvX10_100 (tr_c0 hT) (Nat.le_of_ble_eq_true rfl) (tX9_weightWith hT) ?_
          refine aw_goto (tgt := 31) dX10_weighEach_27 (by decide) ?_
          refine aw_iN_wy0 dX10_weighEach_31 hW rfl (by omega) (fun h hW ho => ?_)
          have hT := tr_off hT ho (Or.inl hdw)
          have hF := hF.trans ho
          refine aw_inc (w := 1) dX10_weighEach_32 rfl (by decide) (by decide) ?_
          refine aw_goto (tgt := 2) dX10_weighEach_35 (by decide) ?_
          exact aw_loc [0, 1, 2, 3] (ls2 := [(0, .ref w), (1, .ref t), (2, .int n'), (3, .int (nI (j + 1)))]) (by first | (rw [nI_succ]; rfl) | rfl) (ih (j + 1) _ _ (by omega) hW hT hF (heq.trans (congrArg (fun z => wEach T n' k (j + 1) (sA V 0 (upd (V 0) j z))) (if_neg c18))))
  exact aw_loc [0, 1, 2, 3] (ls2 := [(0, .ref w), (1, .ref t), (2, .int n'), (3, .int (nI 0))]) rfl (key (6) 0 _ _ (by first | rfl | omega) hW hT hF rfl)
set_option maxHeartbeats 1000000 in
set_option maxRecDepth 100000 in
theorem tX10_handsToOneAt {l : Launch} {E : aw_E} {d n w t : Nat} {h : ah} {V T : sT} (hW : is_wy h w V) (hT : is_tr h t T) {r dd : Int32} : am l E mX10_handsToOneAt (d + 2) 0 0 [.ref w, .ref t, .int r, .int dd] n h (aw_eq n h (some (.int (wTo T V r dd (tN T) 0)))) := by
  refine am_of (by decide +kernel) (Nat.le_of_ble_eq_true rfl) ?_
  refine aw_iconst (v := 0) dX10_handsToOneAt_0 (by decide) ?_
  refine aw_istore dX10_handsToOneAt_1 (by decide) ?_
  have hN1 := clamp_lt (T 10 0)
  have hNN : tN T = (T 10 0).toNatClampNeg := rfl
  have key : ∀ (k j : Nat), j + k = tN T → wTo T V r dd (tN T) 0 = wTo T V r dd k j  → aw l E mX10_handsToOneAt (aw_Z E (aw_eq n h (some (.int (wTo T V r dd (tN T) 0))))) (d + 2) 0 0 3 [(0, .ref w), (1, .ref t), (2, .int r), (3, .int dd), (4, .int (nI j))] [] n h := by
    intro k
    induction k with
    | zero =>
      intro j  hj  heq
      refine aw_iload dX10_handsToOneAt_3 rfl ?_
      refine aw_aload_n dX10_handsToOneAt_5 rfl ?_
      refine aw_callV0p dX10_handsToOneAt_6 cmX9_people cvX10_28 (tr_c0 hT) (Nat.le_of_ble_eq_true rfl) (tX9_people hT) ?_
      refine aw_icmp_ge (tgt := 43) dX10_handsToOneAt_9 (by decide) (fun c9 => ?_) (fun c9 => ?_)
      · refine aw_iconst (v := 0) dX10_handsToOneAt_43 (by decide) ?_
        exact aw_zret dX10_handsToOneAt_44 rfl rfl (⟨congrArg (fun z => some (Value.int z)) heq, rfl, rfl⟩)
      · exact absurd ((i_le_nI (x := T 10 0) (j := j) (by omega)).mpr (by omega)) c9
    | succ k ih =>
      intro j  hj  heq
      refine aw_iload dX10_handsToOneAt_3 rfl ?_
      refine aw_aload_n dX10_handsToOneAt_5 rfl ?_
      refine aw_callV0p dX10_handsToOneAt_6 cmX9_people cvX10_28 (tr_c0 hT) (Nat.le_of_ble_eq_true rfl) (tX9_people hT) ?_
      refine aw_icmp_ge (tgt := 43) dX10_handsToOneAt_9 (by decide) (fun c9 => ?_) (fun c9 => ?_)
      · exact absurd ((i_le_nI (x := T 10 0) (j := j) (by omega)).mp c9) (by omega)
      · refine aw_aload_n dX10_handsToOneAt_12 rfl ?_
        refine aw_iload_n dX10_handsToOneAt_13 rfl ?_
        refine aw_callV1p dX10_handsToOneAt_14 cmX9_handsOf cvX10_49 (tr_c0 hT) (Nat.le_of_ble_eq_true rfl) (tX9_handsOf hT) ?_
        refine aw_iload dX10_handsToOneAt_17 rfl ?_
        refine aw_ishr dX10_handsToOneAt_19 ?_
        refine aw_iconst (v := 1) dX10_handsToOneAt_20 (by decide) ?_
        refine aw_iand dX10_handsToOneAt_21 ?_
        refine aw_if_eq (tgt := 37) dX10_handsToOneAt_22 (by decide) (fun c22 => ?_) (fun c22 => ?_)
        · refine aw_inc (w := 1) dX10_handsToOneAt_37 rfl (by decide) (by decide) ?_
          refine aw_goto (tgt := 3) dX10_handsToOneAt_40 (by decide) ?_
          exact aw_loc [0, 1, 2, 3, 4] (ls2 := [(0, .ref w), (1, .ref t), (2, .int r), (3, .int dd), (4, .int (nI (j + 1)))]) (by first | (rw [nI_succ]; rfl) | rfl) (ih (j + 1)  (by omega)  (heq.trans (if_pos c22)))
        · refine aw_aload_n dX10_handsToOneAt_25 rfl ?_
          refine aw_iload dX10_handsToOneAt_26 rfl ?_
          refine aw_callV1p dX10_handsToOneAt_28 cmX10_farOf cvX10_42 (wy_c0 hW) (Nat.le_of_ble_eq_true rfl) (tX10_farOf hW) ?_
          refine aw_iload_n dX10_handsToOneAt_31 rfl ?_
          refine aw_icmp_ne (tgt := 37) dX10_handsToOneAt_32 (by decide) (fun c32 => ?_) (fun c32 => ?_)
          · refine aw_inc (w := 1) dX10_handsToOneAt_37 rfl (by decide) (by decide) ?_
            refine aw_goto (tgt := 3) dX10_handsToOneAt_40 (by decide) ?_
            exact aw_loc [0, 1, 2, 3, 4] (ls2 := [(0, .ref w), (1, .ref t), (2, .int r), (3, .int dd), (4, .int (nI (j + 1)))]) (by first | (rw [nI_succ]; rfl) | rfl) (ih (j + 1)  (by omega)  (heq.trans ((if_neg c22).trans (if_neg c32))))
          · refine aw_iconst (v := 1) dX10_handsToOneAt_35 (by decide) ?_
            exact aw_zret dX10_handsToOneAt_36 rfl rfl (⟨congrArg (fun z => some (Value.int z)) (heq.trans ((if_neg c22).trans (if_pos c32))), rfl, rfl⟩)
  exact aw_loc [0, 1, 2, 3, 4] (ls2 := [(0, .ref w), (1, .ref t), (2, .int r), (3, .int dd), (4, .int (nI 0))]) rfl (key (tN T) 0  (by first | rfl | omega)  rfl)
set_option maxHeartbeats 1000000 in
set_option maxRecDepth 100000 in
theorem tX10_measure {l : Launch} {E : aw_E} {d n w t : Nat} {h0 : ah} {V0 T : sT} (hW : is_wy h0 w V0) (hT : is_tr h0 t T) (hdw : t + 20 ≤ w) {p q w' : Int32} : am l E mX10_measure (d + 3) 0 0 [.ref w, .ref t, .int p, .int q, .int w'] n h0 (wy_post n h0 w (some (.int (wFar (wMeas T V0 q w') p))) (wMeas T V0 q w')) := by
  refine am_of (by decide +kernel) (Nat.le_of_ble_eq_true rfl) ?_
  have hF : ah_off h0 h0 w 5 := ah_off.rf
  refine aw_iconst (v := 0) dX10_measure_0 (by decide) ?_
  refine aw_istore dX10_measure_1 (by decide) ?_
  have key1 : ∀ (k1 j1 : Nat) (h : ah) (V : sT), j1 + k1 = 6 → is_wy h w V → is_tr h t T → ah_off h0 h w 5 → mI1 q w' 6 0 V0 = mI1 q w' k1 j1 V → aw l E mX10_measure (aw_Z E (wy_post n h0 w (some (.int (wFar (wMeas T V0 q w') p))) (wMeas T V0 q w'))) (d + 3) 0 0 3 [(0, .ref w), (1, .ref t), (2, .int p), (3, .int q), (4, .int w'), (5, .int (nI j1))] [] n h := by
    intro k1
    induction k1 with
    | zero =>
      intro j1 h V hj1 hW hT hF heq1
      refine aw_iload dX10_measure_3 rfl ?_
      refine aw_bipush (v := 6) dX10_measure_5 (by decide) ?_
      refine aw_icmp_ge (tgt := 45) dX10_measure_7 (by decide) (fun c7 => ?_) (fun c7 => ?_)
      · refine aw_iconst (v := 1) dX10_measure_45 (by decide) ?_
        refine aw_istore dX10_measure_46 (by decide) ?_
        have key : ∀ (k j : Nat) (h : ah) (V : sT), j + k = 6 → is_wy h w V → is_tr h t T → ah_off h0 h w 5 → wMeas T V0 q w' = mI2 T w' k j V → aw l E mX10_measure (aw_Z E (wy_post n h0 w (some (.int (wFar (wMeas T V0 q w') p))) (wMeas T V0 q w'))) (d + 3) 0 0 48 [(0, .ref w), (1, .ref t), (2, .int p), (3, .int q), (4, .int w'), (5, .int (nI j))] [] n h := by
          intro k
          induction k with
          | zero =>
            intro j h V hj hW hT hF heq
            refine aw_iload dX10_measure_48 rfl ?_
            refine aw_bipush (v := 6) dX10_measure_50 (by decide) ?_
            refine aw_icmp_ge (tgt := 123) dX10_measure_52 (by decide) (fun c52 => ?_) (fun c52 => ?_)
            · refine aw_aload_n dX10_measure_123 rfl ?_
              refine aw_iload_n dX10_measure_124 rfl ?_
              refine aw_callV1p dX10_measure_125 cmX10_farOf cvX10_42 (wy_c0 hW) (Nat.le_of_ble_eq_true rfl) (tX10_farOf hW) ?_
              exact aw_iret dX10_measure_128 rfl (⟨by rw [show wMeas T V0 q w' = V from heq], rfl, is_of (P := is_wy _ w) heq hW, hF⟩)
            · exact absurd ((nI_leI (a := 6) (b := j) (by omega) (by omega)).mpr (by omega)) c52
          | succ k ih =>
            intro j h V hj hW hT hF heq
            refine aw_iload dX10_measure_48 rfl ?_
            refine aw_bipush (v := 6) dX10_measure_50 (by decide) ?_
            refine aw_icmp_ge (tgt := 123) dX10_measure_52 (by decide) (fun c52 => ?_) (fun c52 => ?_)
            · exact absurd ((nI_leI (a := 6) (b := j) (by omega) (by omega)).mp c52) (by omega)
            · refine aw_iconst (v := 0) dX10_measure_55 (by decide) ?_
              refine aw_istore dX10_measure_56 (by decide) ?_
              have key3 : ∀ (k3 j3 : Nat) (h : ah) (V3 : sT), j3 + k3 = 6 → is_wy h w V3 → is_tr h t T → ah_off h0 h w 5 → mI3 T w' (nI j) 6 0 V = mI3 T w' (nI j) k3 j3 V3 → aw l E mX10_measure (aw_Z E (wy_post n h0 w (some (.int (wFar (wMeas T V0 q w') p))) (wMeas T V0 q w'))) (d + 3) 0 0 58 [(0, .ref w), (1, .ref t), (2, .int p), (3, .int q), (4, .int w'), (5, .int (nI j)), (6, .int (nI j3))] [] n h := by
                intro k3
                induction k3 with
                | zero =>
                  intro j3 h V3 hj3 hW hT hF heq3
                  refine aw_iload dX10_measure_58 rfl ?_
                  refine aw_bipush (v := 6) dX10_measure_60 (by decide) ?_
                  refine aw_icmp_ge (tgt := 117) dX10_measure_62 (by decide) (fun c62 => ?_) (fun c62 => ?_)
                  · refine aw_inc (w := 1) dX10_measure_117 rfl (by decide) (by decide) ?_
                    refine aw_goto (tgt := 48) dX10_measure_120 (by decide) ?_
                    exact aw_loc [0, 1, 2, 3, 4, 5] (ls2 := [(0, .ref w), (1, .ref t), (2, .int p), (3, .int q), (4, .int w'), (5, .int (nI (j + 1)))]) (by first | (rw [nI_succ]; rfl) | rfl) (ih (j + 1) _ _ (by omega) hW hT hF (heq.trans (congrArg (mI2 T w' k (j + 1)) heq3)))
                  · exact absurd ((nI_leI (a := 6) (b := j3) (by omega) (by omega)).mpr (by omega)) c62
                | succ k3 ih3 =>
                  intro j3 h V3 hj3 hW hT hF heq3
                  refine aw_iload dX10_measure_58 rfl ?_
                  refine aw_bipush (v := 6) dX10_measure_60 (by decide) ?_
                  refine aw_icmp_ge (tgt := 117) dX10_measure_62 (by decide) (fun c62 => ?_) (fun c62 => ?_)
                  · exact absurd ((nI_leI (a := 6) (b := j3) (by omega) (by omega)).mp c62) (by omega)
                  · refine aw_aload_n dX10_measure_65 rfl ?_
                    refine aw_get dX10_measure_66 flX10_15 (wy_c0 hW) rfl ?_
                    refine aw_iload dX10_measure_69 rfl ?_
                    refine aw_ialdN dX10_measure_71 (wy_c2 hW) rfl (by omega) (by decide) ?_
                    refine aw_bipush (v := 99) dX10_measure_72 (by decide) ?_
                    refine aw_icmp_ne (tgt := 111) dX10_measure_74 (by decide) (fun c74 => ?_) (fun c74 => ?_)
                    · refine aw_inc (w := 1) dX10_measure_111 rfl (by decide) (by decide) ?_
                      refine aw_goto (tgt := 58) dX10_measure_114 (by decide) ?_
                      exact aw_loc [0, 1, 2, 3, 4, 5, 6] (ls2 := [(0, .ref w), (1, .ref t), (2, .int p), (3, .int q), (4, .int w'), (5, .int (nI j)), (6, .int (nI (j3 + 1)))]) (by first | (rw [nI_succ]; rfl) | rfl) (ih3 (j3 + 1) _ _ (by omega) hW hT hF (heq3.trans (congrArg (mI3 T w' (nI j) k3 (j3 + 1)) (if_neg c74))))
                    · refine aw_aload_n dX10_measure_77 rfl ?_
                      refine aw_iload dX10_measure_78 rfl ?_
                      refine aw_callV1p dX10_measure_80 cmX10_heftOf cvX10_34 (wy_c0 hW) (Nat.le_of_ble_eq_true rfl) (tX10_heftOf hW) ?_
                      refine aw_iload dX10_measure_83 rfl ?_
                      refine aw_icmp_lt (tgt := 111) dX10_measure_85 (by decide) (fun c85 => ?_) (fun c85 => ?_)
                      · refine aw_inc (w := 1) dX10_measure_111 rfl (by decide) (by decide) ?_
                        refine aw_goto (tgt := 58) dX10_measure_114 (by decide) ?_
                        exact aw_loc [0, 1, 2, 3, 4, 5, 6] (ls2 := [(0, .ref w), (1, .ref t), (2, .int p), (3, .int q), (4, .int w'), (5, .int (nI j)), (6, .int (nI (j3 + 1)))]) (by first | (rw [nI_succ]; rfl) | rfl) (ih3 (j3 + 1) _ _ (by omega) hW hT hF (heq3.trans (congrArg (mI3 T w' (nI j) k3 (j3 + 1)) ((if_pos c74).trans (if_pos c85)))))
                      · refine aw_aload_n dX10_measure_88 rfl ?_
                        refine aw_aload_n dX10_measure_89 rfl ?_
                        refine aw_iload dX10_measure_90 rfl ?_
                        refine aw_iload dX10_measure_92 rfl ?_
                        refine aw_iconst (v := 1) dX10_measure_94 (by decide) ?_
                        refine aw_isub dX10_measure_95 ?_
                        refine aw_callV3p dX10_measure_96 cmX10_handsToOneAt cvX10_52 (wy_c0 hW) (Nat.le_of_ble_eq_true rfl) (tX10_handsToOneAt hW hT) ?_
                        refine aw_if_eq (tgt := 111) dX10_measure_99 (by decide) (fun c99 => ?_) (fun c99 => ?_)
                        · refine aw_inc (w := 1) dX10_measure_111 rfl (by decide) (by decide) ?_
                          refine aw_goto (tgt := 58) dX10_measure_114 (by decide) ?_
                          exact aw_loc [0, 1, 2, 3, 4, 5, 6] (ls2 := [(0, .ref w), (1, .ref t), (2, .int p), (3, .int q), (4, .int w'), (5, .int (nI j)), (6, .int (nI (j3 + 1)))]) (by first | (rw [nI_succ]; rfl) | rfl) (ih3 (j3 + 1) _ _ (by omega) hW hT hF (heq3.trans (congrArg (mI3 T w' (nI j) k3 (j3 + 1)) (((if_pos c74).trans (if_neg c85)).trans (if_pos c99)))))
                        · refine aw_aload_n dX10_measure_102 rfl ?_
                          refine aw_get dX10_measure_103 flX10_15 (wy_c0 hW) rfl ?_
                          refine aw_iload dX10_measure_106 rfl ?_
                          refine aw_iload dX10_measure_108 rfl ?_
                          refine aw_iN_wy1 dX10_measure_110 hW rfl (by omega) (fun h hW ho => ?_)
                          have hT := tr_off hT ho (Or.inl hdw)
                          have hF := hF.trans ho
                          refine aw_inc (w := 1) dX10_measure_111 rfl (by decide) (by decide) ?_
                          refine aw_goto (tgt := 58) dX10_measure_114 (by decide) ?_
                          exact aw_loc [0, 1, 2, 3, 4, 5, 6] (ls2 := [(0, .ref w), (1, .ref t), (2, .int p), (3, .int q), (4, .int w'), (5, .int (nI j)), (6, .int (nI (j3 + 1)))]) (by first | (rw [nI_succ]; rfl) | rfl) (ih3 (j3 + 1) _ _ (by omega) hW hT hF (heq3.trans (congrArg (mI3 T w' (nI j) k3 (j3 + 1)) (((if_pos c74).trans (if_neg c85)).trans (if_neg c99)))))
              exact aw_loc [0, 1, 2, 3, 4, 5, 6] (ls2 := [(0, .ref w), (1, .ref t), (2, .int p), (3, .int q), (4, .int w'), (5, .int (nI j)), (6, .int (nI 0))]) rfl (key3 (6) 0 _ _ (by first | rfl | omega) hW hT hF rfl)
        exact aw_loc [0, 1, 2, 3, 4, 5] (ls2 := [(0, .ref w), (1, .ref t), (2, .int p), (3, .int q), (4, .int w'), (5, .int (nI 1))]) rfl (key 5 1 _ _ (by first | rfl | omega) hW hT hF (congrArg (mI2 T w' 5 1) heq1))
      · exact absurd ((nI_leI (a := 6) (b := j1) (by omega) (by omega)).mpr (by omega)) c7
    | succ k1 ih1 =>
      intro j1 h V hj1 hW hT hF heq1
      refine aw_iload dX10_measure_3 rfl ?_
      refine aw_bipush (v := 6) dX10_measure_5 (by decide) ?_
      refine aw_icmp_ge (tgt := 45) dX10_measure_7 (by decide) (fun c7 => ?_) (fun c7 => ?_)
      · exact absurd ((nI_leI (a := 6) (b := j1) (by omega) (by omega)).mp c7) (by omega)
      · refine aw_aload_n dX10_measure_10 rfl ?_
        refine aw_get dX10_measure_11 flX10_15 (wy_c0 hW) rfl ?_
        refine aw_iload dX10_measure_14 rfl ?_
        refine aw_iload dX10_measure_16 rfl ?_
        refine aw_iload_n dX10_measure_18 rfl ?_
        refine aw_icmp_ne (tgt := 36) dX10_measure_19 (by decide) (fun c19 => ?_) (fun c19 => ?_)
        · refine aw_bipush (v := 99) dX10_measure_36 (by decide) ?_
          refine aw_iN_wy1 dX10_measure_38 hW rfl (by omega) (fun h hW ho => ?_)
          have hT := tr_off hT ho (Or.inl hdw)
          have hF := hF.trans ho
          refine aw_inc (w := 1) dX10_measure_39 rfl (by decide) (by decide) ?_
          refine aw_goto (tgt := 3) dX10_measure_42 (by decide) ?_
          exact aw_loc [0, 1, 2, 3, 4, 5] (ls2 := [(0, .ref w), (1, .ref t), (2, .int p), (3, .int q), (4, .int w'), (5, .int (nI (j1 + 1)))]) (by first | (rw [nI_succ]; rfl) | rfl) (ih1 (j1 + 1) _ _ (by omega) hW hT hF (heq1.trans (congrArg (fun z => mI1 q w' k1 (j1 + 1) (sA V 1 (upd (V 1) j1 z))) (if_neg c19))))
        · refine aw_aload_n dX10_measure_22 rfl ?_
          refine aw_iload_n dX10_measure_23 rfl ?_
          refine aw_callV1p dX10_measure_24 cmX10_heftOf cvX10_34 (wy_c0 hW) (Nat.le_of_ble_eq_true rfl) (tX10_heftOf hW) ?_
          refine aw_iload dX10_measure_27 rfl ?_
          refine aw_icmp_lt (tgt := 36) dX10_measure_29 (by decide) (fun c29 => ?_) (fun c29 => ?_)
          · refine aw_bipush (v := 99) dX10_measure_36 (by decide) ?_
            refine aw_iN_wy1 dX10_measure_38 hW rfl (by omega) (fun h hW ho => ?_)
            have hT := tr_off hT ho (Or.inl hdw)
            have hF := hF.trans ho
            refine aw_inc (w := 1) dX10_measure_39 rfl (by decide) (by decide) ?_
            refine aw_goto (tgt := 3) dX10_measure_42 (by decide) ?_
            exact aw_loc [0, 1, 2, 3, 4, 5] (ls2 := [(0, .ref w), (1, .ref t), (2, .int p), (3, .int q), (4, .int w'), (5, .int (nI (j1 + 1)))]) (by first | (rw [nI_succ]; rfl) | rfl) (ih1 (j1 + 1) _ _ (by omega) hW hT hF (heq1.trans (congrArg (fun z => mI1 q w' k1 (j1 + 1) (sA V 1 (upd (V 1) j1 z))) ((if_pos c19).trans (if_pos c29)))))
          · refine aw_iconst (v := 0) dX10_measure_32 (by decide) ?_
            refine aw_goto (tgt := 38) dX10_measure_33 (by decide) ?_
            refine aw_iN_wy1 dX10_measure_38 hW rfl (by omega) (fun h hW ho => ?_)
            have hT := tr_off hT ho (Or.inl hdw)
            have hF := hF.trans ho
            refine aw_inc (w := 1) dX10_measure_39 rfl (by decide) (by decide) ?_
            refine aw_goto (tgt := 3) dX10_measure_42 (by decide) ?_
            exact aw_loc [0, 1, 2, 3, 4, 5] (ls2 := [(0, .ref w), (1, .ref t), (2, .int p), (3, .int q), (4, .int w'), (5, .int (nI (j1 + 1)))]) (by first | (rw [nI_succ]; rfl) | rfl) (ih1 (j1 + 1) _ _ (by omega) hW hT hF (heq1.trans (congrArg (fun z => mI1 q w' k1 (j1 + 1) (sA V 1 (upd (V 1) j1 z))) ((if_pos c19).trans (if_neg c29)))))
  exact aw_loc [0, 1, 2, 3, 4, 5] (ls2 := [(0, .ref w), (1, .ref t), (2, .int p), (3, .int q), (4, .int w'), (5, .int (nI 0))]) rfl (key1 (6) 0 _ _ (by first | rfl | omega) hW hT hF rfl)
set_option maxHeartbeats 1000000 in
set_option maxRecDepth 100000 in
theorem tX10_carry {l : Launch} {E : aw_E} {d n w t : Nat} {h0 : ah} {V0 T : sT} (hW : is_wy h0 w V0) (hT : is_tr h0 t T) (hdw : t + 20 ≤ w) {p q n' : Int32} : am l E mX10_carry (d + 5) 0 0 [.ref w, .ref t, .int p, .int q, .int n'] n h0 (wy_post n h0 w (some (.int (wCarry T V0 p q n').2)) (wCarryS T V0 p q n')) := by
  refine am_of (by decide +kernel) (Nat.le_of_ble_eq_true rfl) ?_
  have hF : ah_off h0 h0 w 5 := ah_off.rf
  refine aw_aload_n dX10_carry_0 rfl ?_
  refine aw_aload_n dX10_carry_1 rfl ?_
  refine aw_iload dX10_carry_2 rfl ?_
  refine aw_callV2e dX10_carry_4 cmX10_weighEach cvX10_24 (wy_c0 hW) (Nat.le_of_ble_eq_true rfl) (tX10_weighEach hW hT hdw) (fun r n' h' hq => ?_)
  obtain ⟨rfl, rfl, hW, ho⟩ := hq
  have hT := tr_off hT ho (Or.inl hdw)
  have hF := hF.trans ho
  refine aw_iconst (v := -1) dX10_carry_7 (by decide) ?_
  refine aw_istore dX10_carry_8 (by decide) ?_
  refine aw_iconst (v := 0) dX10_carry_10 (by decide) ?_
  refine aw_istore dX10_carry_11 (by decide) ?_
  have hN1 := clamp_lt (T 10 0)
  have hNN : tN T = (T 10 0).toNatClampNeg := rfl
  have key : ∀ (k j : Nat) (h : ah) (V : sT) (m : Int32), j + k = tN T → is_wy h w V → is_tr h t T → ah_off h0 h w 5 → wCarry T V0 p q n' = wCar T p q k j V m → aw l E mX10_carry (aw_Z E (wy_post n h0 w (some (.int (wCarry T V0 p q n').2)) (wCarryS T V0 p q n'))) (d + 5) 0 0 13 [(0, .ref w), (1, .ref t), (2, .int p), (3, .int q), (4, .int n'), (5, .int m), (6, .int (nI j))] [] n h := by
    intro k
    induction k with
    | zero =>
      intro j h V m hj hW hT hF heq
      refine aw_iload dX10_carry_13 rfl ?_
      refine aw_aload_n dX10_carry_15 rfl ?_
      refine aw_callV0p dX10_carry_16 cmX9_people cvX10_28 (tr_c0 hT) (Nat.le_of_ble_eq_true rfl) (tX9_people hT) ?_
      refine aw_icmp_ge (tgt := 61) dX10_carry_19 (by decide) (fun c19 => ?_) (fun c19 => ?_)
      · refine aw_aload_n dX10_carry_61 rfl ?_
        refine aw_aload_n dX10_carry_62 rfl ?_
        refine aw_iload_n dX10_carry_63 rfl ?_
        refine aw_iload_n dX10_carry_64 rfl ?_
        refine aw_iload dX10_carry_65 rfl ?_
        refine aw_callV4e dX10_carry_67 cmX10_measure cvX10_38 (wy_c0 hW) (Nat.le_of_ble_eq_true rfl) (tX10_measure hW hT hdw) (fun r n' h' hq => ?_)
        obtain ⟨rfl, rfl, hW, ho⟩ := hq
        have hT := tr_off hT ho (Or.inl hdw)
        have hF := hF.trans ho
        refine aw_pop dX10_carry_70 rfl ?_
        refine aw_iload dX10_carry_71 rfl ?_
        exact aw_iret dX10_carry_73 rfl (⟨by rw [heq]; rfl, rfl, by unfold wCarryS; rw [heq]; exact hW, hF⟩)
      · exact absurd ((i_le_nI (x := T 10 0) (j := j) (by omega)).mpr (by omega)) c19
    | succ k ih =>
      intro j h V m hj hW hT hF heq
      refine aw_iload dX10_carry_13 rfl ?_
      refine aw_aload_n dX10_carry_15 rfl ?_
      refine aw_callV0p dX10_carry_16 cmX9_people cvX10_28 (tr_c0 hT) (Nat.le_of_ble_eq_true rfl) (tX9_people hT) ?_
      refine aw_icmp_ge (tgt := 61) dX10_carry_19 (by decide) (fun c19 => ?_) (fun c19 => ?_)
      · exact absurd ((i_le_nI (x := T 10 0) (j := j) (by omega)).mp c19) (by omega)
      · refine aw_aload_n dX10_carry_22 rfl ?_
        refine aw_iload dX10_carry_23 rfl ?_
        refine aw_callV1p dX10_carry_25 cmX10_heftOf cvX10_34 (wy_c0 hW) (Nat.le_of_ble_eq_true rfl) (tX10_heftOf hW) ?_
        refine aw_istore dX10_carry_28 (by decide) ?_
        refine aw_iload dX10_carry_30 rfl ?_
        refine aw_iload dX10_carry_32 rfl ?_
        refine aw_icmp_le (tgt := 55) dX10_carry_34 (by decide) (fun c34 => ?_) (fun c34 => ?_)
        · refine aw_inc (w := 1) dX10_carry_55 rfl (by decide) (by decide) ?_
          refine aw_goto (tgt := 13) dX10_carry_58 (by decide) ?_
          exact aw_loc [0, 1, 2, 3, 4, 5, 6] (ls2 := [(0, .ref w), (1, .ref t), (2, .int p), (3, .int q), (4, .int n'), (5, .int m), (6, .int (nI (j + 1)))]) (by first | (rw [nI_succ]; rfl) | rfl) (ih (j + 1) _ _ m (by omega) hW hT hF (heq.trans (if_pos c34)))
        · refine aw_aload_n dX10_carry_37 rfl ?_
          refine aw_aload_n dX10_carry_38 rfl ?_
          refine aw_iload_n dX10_carry_39 rfl ?_
          refine aw_iload_n dX10_carry_40 rfl ?_
          refine aw_iload dX10_carry_41 rfl ?_
          refine aw_callV4e dX10_carry_43 cmX10_measure cvX10_38 (wy_c0 hW) (Nat.le_of_ble_eq_true rfl) (tX10_measure hW hT hdw) (fun r n' h' hq => ?_)
          obtain ⟨rfl, rfl, hW, ho⟩ := hq
          have hT := tr_off hT ho (Or.inl hdw)
          have hF := hF.trans ho
          refine aw_bipush (v := 99) dX10_carry_46 (by decide) ?_
          refine aw_icmp_ge (tgt := 55) dX10_carry_48 (by decide) (fun c48 => ?_) (fun c48 => ?_)
          · refine aw_inc (w := 1) dX10_carry_55 rfl (by decide) (by decide) ?_
            refine aw_goto (tgt := 13) dX10_carry_58 (by decide) ?_
            exact aw_loc [0, 1, 2, 3, 4, 5, 6] (ls2 := [(0, .ref w), (1, .ref t), (2, .int p), (3, .int q), (4, .int n'), (5, .int m), (6, .int (nI (j + 1)))]) (by first | (rw [nI_succ]; rfl) | rfl) (ih (j + 1) _ _ m (by omega) hW hT hF (heq.trans ((if_neg c34).trans (if_pos c48))))
          · refine aw_iload dX10_carry_51 rfl ?_
            refine aw_istore dX10_carry_53 (by decide) ?_
            refine aw_inc (w := 1) dX10_carry_55 rfl (by decide) (by decide) ?_
            refine aw_goto (tgt := 13) dX10_carry_58 (by decide) ?_
            exact aw_loc [0, 1, 2, 3, 4, 5, 6] (ls2 := [(0, .ref w), (1, .ref t), (2, .int p), (3, .int q), (4, .int n'), (5, .int (wHeft V (nI j))), (6, .int (nI (j + 1)))]) (by first | (rw [nI_succ]; rfl) | rfl) (ih (j + 1) _ _ (wHeft V (nI j)) (by omega) hW hT hF (heq.trans ((if_neg c34).trans (if_neg c48))))
  exact aw_loc [0, 1, 2, 3, 4, 5, 6] (ls2 := [(0, .ref w), (1, .ref t), (2, .int p), (3, .int q), (4, .int n'), (5, .int (-1)), (6, .int (nI 0))]) rfl (key (tN T) 0 _ _ (-1) (by first | rfl | omega) hW hT hF rfl)
set_option maxHeartbeats 1000000 in
set_option maxRecDepth 100000 in
theorem tX10_nearerHand {l : Launch} {E : aw_E} {d n w t : Nat} {h : ah} {V T : sT} (hW : is_wy h w V) (hT : is_tr h t T) {a : Int32} : am l E mX10_nearerHand (d + 2) 0 0 [.ref w, .ref t, .int a] n h (aw_eq n h (some (.int (wNear T V a (tN T) 0)))) := by
  refine am_of (by decide +kernel) (Nat.le_of_ble_eq_true rfl) ?_
  refine aw_iconst (v := 0) dX10_nearerHand_0 (by decide) ?_
  refine aw_istore_n dX10_nearerHand_1 (by decide) ?_
  have hN1 := clamp_lt (T 10 0)
  have hNN : tN T = (T 10 0).toNatClampNeg := rfl
  have key : ∀ (k j : Nat), j + k = tN T → wNear T V a (tN T) 0 = wNear T V a k j  → aw l E mX10_nearerHand (aw_Z E (aw_eq n h (some (.int (wNear T V a (tN T) 0))))) (d + 2) 0 0 2 [(0, .ref w), (1, .ref t), (2, .int a), (3, .int (nI j))] [] n h := by
    intro k
    induction k with
    | zero =>
      intro j  hj  heq
      refine aw_iload_n dX10_nearerHand_2 rfl ?_
      refine aw_aload_n dX10_nearerHand_3 rfl ?_
      refine aw_callV0p dX10_nearerHand_4 cmX9_people cvX10_28 (tr_c0 hT) (Nat.le_of_ble_eq_true rfl) (tX9_people hT) ?_
      refine aw_icmp_ge (tgt := 45) dX10_nearerHand_7 (by decide) (fun c7 => ?_) (fun c7 => ?_)
      · refine aw_iload_n dX10_nearerHand_45 rfl ?_
        exact aw_iret dX10_nearerHand_46 rfl (⟨congrArg (fun z => some (Value.int z)) heq, rfl, rfl⟩)
      · exact absurd ((i_le_nI (x := T 10 0) (j := j) (by omega)).mpr (by omega)) c7
    | succ k ih =>
      intro j  hj  heq
      refine aw_iload_n dX10_nearerHand_2 rfl ?_
      refine aw_aload_n dX10_nearerHand_3 rfl ?_
      refine aw_callV0p dX10_nearerHand_4 cmX9_people cvX10_28 (tr_c0 hT) (Nat.le_of_ble_eq_true rfl) (tX9_people hT) ?_
      refine aw_icmp_ge (tgt := 45) dX10_nearerHand_7 (by decide) (fun c7 => ?_) (fun c7 => ?_)
      · exact absurd ((i_le_nI (x := T 10 0) (j := j) (by omega)).mp c7) (by omega)
      · refine aw_aload_n dX10_nearerHand_10 rfl ?_
        refine aw_iload_n dX10_nearerHand_11 rfl ?_
        refine aw_callV1p dX10_nearerHand_12 cmX9_handsOf cvX10_49 (tr_c0 hT) (Nat.le_of_ble_eq_true rfl) (tX9_handsOf hT) ?_
        refine aw_iload_n dX10_nearerHand_15 rfl ?_
        refine aw_ishr dX10_nearerHand_16 ?_
        refine aw_iconst (v := 1) dX10_nearerHand_17 (by decide) ?_
        refine aw_iand dX10_nearerHand_18 ?_
        refine aw_if_eq (tgt := 39) dX10_nearerHand_19 (by decide) (fun c19 => ?_) (fun c19 => ?_)
        · refine aw_inc (w := 1) dX10_nearerHand_39 rfl (by decide) (by decide) ?_
          refine aw_goto (tgt := 2) dX10_nearerHand_42 (by decide) ?_
          exact aw_loc [0, 1, 2, 3] (ls2 := [(0, .ref w), (1, .ref t), (2, .int a), (3, .int (nI (j + 1)))]) (by first | (rw [nI_succ]; rfl) | rfl) (ih (j + 1)  (by omega)  (heq.trans (if_pos c19)))
        · refine aw_aload_n dX10_nearerHand_22 rfl ?_
          refine aw_iload_n dX10_nearerHand_23 rfl ?_
          refine aw_callV1p dX10_nearerHand_24 cmX10_farOf cvX10_42 (wy_c0 hW) (Nat.le_of_ble_eq_true rfl) (tX10_farOf hW) ?_
          refine aw_aload_n dX10_nearerHand_27 rfl ?_
          refine aw_iload_n dX10_nearerHand_28 rfl ?_
          refine aw_callV1p dX10_nearerHand_29 cmX10_farOf cvX10_42 (wy_c0 hW) (Nat.le_of_ble_eq_true rfl) (tX10_farOf hW) ?_
          refine aw_iconst (v := 1) dX10_nearerHand_32 (by decide) ?_
          refine aw_isub dX10_nearerHand_33 ?_
          refine aw_icmp_ne (tgt := 39) dX10_nearerHand_34 (by decide) (fun c34 => ?_) (fun c34 => ?_)
          · refine aw_inc (w := 1) dX10_nearerHand_39 rfl (by decide) (by decide) ?_
            refine aw_goto (tgt := 2) dX10_nearerHand_42 (by decide) ?_
            exact aw_loc [0, 1, 2, 3] (ls2 := [(0, .ref w), (1, .ref t), (2, .int a), (3, .int (nI (j + 1)))]) (by first | (rw [nI_succ]; rfl) | rfl) (ih (j + 1)  (by omega)  (heq.trans ((if_neg c19).trans (if_neg c34))))
          · refine aw_iload_n dX10_nearerHand_37 rfl ?_
            exact aw_iret dX10_nearerHand_38 rfl (⟨congrArg (fun z => some (Value.int z)) (heq.trans ((if_neg c19).trans (if_pos c34))), rfl, rfl⟩)
  exact aw_loc [0, 1, 2, 3] (ls2 := [(0, .ref w), (1, .ref t), (2, .int a), (3, .int (nI 0))]) rfl (key (tN T) 0  (by first | rfl | omega)  rfl)
set_option maxHeartbeats 1000000 in
set_option maxRecDepth 100000 in
theorem tX10_handAt {l : Launch} {E : aw_E} {d n w t : Nat} {h : ah} {V T : sT} (hW : is_wy h w V) (hT : is_tr h t T) {p i : Int32} : am l E mX10_handAt (d + 3) 0 0 [.ref w, .ref t, .int p, .int i] n h (aw_eq n h (some (.int (wHandAt T V p i)))) := by
  refine am_of (by decide +kernel) (Nat.le_of_ble_eq_true rfl) ?_
  refine aw_iload_n dX10_handAt_0 rfl ?_
  refine aw_aload_n dX10_handAt_1 rfl ?_
  refine aw_iload_n dX10_handAt_2 rfl ?_
  refine aw_callV1p dX10_handAt_3 cmX10_farOf cvX10_42 (wy_c0 hW) (Nat.le_of_ble_eq_true rfl) (tX10_farOf hW) ?_
  refine aw_icmp_le (tgt := 12) dX10_handAt_6 (by decide) (fun c6 => ?_) (fun c6 => ?_)
  · refine aw_iload_n dX10_handAt_12 rfl ?_
    refine aw_istore dX10_handAt_13 (by decide) ?_
    refine aw_iconst (v := 0) dX10_handAt_15 (by decide) ?_
    refine aw_istore dX10_handAt_16 (by decide) ?_
    have hN1 := clamp_lt i
    have key : ∀ (k j : Nat) (a : Int32), j + k = min i.toNatClampNeg 6 → wWalk T V (min i.toNatClampNeg 6) 0 p = wWalk T V k j a → aw l E mX10_handAt (aw_Z E (aw_eq n h (some (.int (wHandAt T V p i))))) (d + 3) 0 0 18 [(0, .ref w), (1, .ref t), (3, .int i), (4, .int a), (5, .int (nI j))] [] n h := by
      intro k
      induction k with
      | zero =>
        intro j a hj  heq
        refine aw_iload dX10_handAt_18 rfl ?_
        refine aw_iload_n dX10_handAt_20 rfl ?_
        refine aw_icmp_ge (tgt := 46) dX10_handAt_21 (by decide) (fun c21 => ?_) (fun c21 => ?_)
        · refine aw_iload dX10_handAt_46 rfl ?_
          exact aw_iret dX10_handAt_48 rfl (⟨congrArg (fun z => some (Value.int z)) ((if_pos c6).trans heq), rfl, rfl⟩)
        · refine aw_iload dX10_handAt_24 rfl ?_
          refine aw_bipush (v := 6) dX10_handAt_26 (by decide) ?_
          refine aw_icmp_ge (tgt := 46) dX10_handAt_28 (by decide) (fun c28 => ?_) (fun c28 => ?_)
          · refine aw_iload dX10_handAt_46 rfl ?_
            exact aw_iret dX10_handAt_48 rfl (⟨congrArg (fun z => some (Value.int z)) ((if_pos c6).trans heq), rfl, rfl⟩)
          · have q1 := mt (i_le_nI (x := i) (j := j) (by omega)).mpr c21
            have q2 := mt (nI_leI (a := 6) (b := j) (by omega) (by omega)).mpr c28
            omega
      | succ k ih =>
        intro j a hj  heq
        refine aw_iload dX10_handAt_18 rfl ?_
        refine aw_iload_n dX10_handAt_20 rfl ?_
        refine aw_icmp_ge (tgt := 46) dX10_handAt_21 (by decide) (fun c21 => ?_) (fun c21 => ?_)
        · exact absurd ((i_le_nI (x := i) (j := j) (by omega)).mp c21) (by omega)
        · refine aw_iload dX10_handAt_24 rfl ?_
          refine aw_bipush (v := 6) dX10_handAt_26 (by decide) ?_
          refine aw_icmp_ge (tgt := 46) dX10_handAt_28 (by decide) (fun c28 => ?_) (fun c28 => ?_)
          · exact absurd ((nI_leI (a := 6) (b := j) (by omega) (by omega)).mp c28) (by omega)
          · refine aw_aload_n dX10_handAt_31 rfl ?_
            refine aw_aload_n dX10_handAt_32 rfl ?_
            refine aw_iload dX10_handAt_33 rfl ?_
            refine aw_callV2p dX10_handAt_35 cmX10_nearerHand cvX10_45 (wy_c0 hW) (Nat.le_of_ble_eq_true rfl) (tX10_nearerHand hW hT) ?_
            refine aw_istore dX10_handAt_38 (by decide) ?_
            refine aw_inc (w := 1) dX10_handAt_40 rfl (by decide) (by decide) ?_
            refine aw_goto (tgt := 18) dX10_handAt_43 (by decide) ?_
            exact aw_loc [0, 1, 3, 4, 5] (ls2 := [(0, .ref w), (1, .ref t), (3, .int i), (4, .int _), (5, .int (nI (j + 1)))]) (by first | (rw [nI_succ]; rfl) | rfl) (ih (j + 1) _ (by omega)  heq)
    exact aw_loc [0, 1, 3, 4, 5] (ls2 := [(0, .ref w), (1, .ref t), (3, .int i), (4, .int p), (5, .int (nI 0))]) rfl (key (min i.toNatClampNeg 6) 0 p (by first | rfl | omega)  rfl)
  · refine aw_bipush (v := -5) dX10_handAt_9 (by decide) ?_
    exact aw_iret dX10_handAt_11 rfl (⟨congrArg (fun z => some (Value.int z)) (if_neg c6), rfl, rfl⟩)
set_option maxHeartbeats 1000000 in
set_option maxRecDepth 100000 in
theorem tX10_payTogether {l : Launch} {E : aw_E} {d n t : Nat} {h : ah} {T : sT} (hT : is_tr h t T) {b : Int32} : am l E mX10_payTogether (d + 2) 0 0 [.ref t, .int b] n h (aw_eq n h (some (.int (wPay T b)))) := by
  refine am_of (by decide +kernel) (Nat.le_of_ble_eq_true rfl) ?_
  refine aw_iconst (v := 0) dX10_payTogether_0 (by decide) ?_
  refine aw_istore_n dX10_payTogether_1 (by decide) ?_
  refine aw_iconst (v := 0) dX10_payTogether_2 (by decide) ?_
  refine aw_istore_n dX10_payTogether_3 (by decide) ?_
  have key : ∀ (k j : Nat) (s : Int32), j + k = 6 → wPay T b = lpSumB (fun j => trG 3 T (nI j)) b k j s → aw l E mX10_payTogether (aw_Z E (aw_eq n h (some (.int (wPay T b))))) (d + 2) 0 0 4 [(0, .ref t), (1, .int b), (2, .int s), (3, .int (nI j))] [] n h := by
    intro k
    induction k with
    | zero =>
      intro j s hj  heq
      refine aw_iload_n dX10_payTogether_4 rfl ?_
      refine aw_bipush (v := 6) dX10_payTogether_5 (by decide) ?_
      refine aw_icmp_ge (tgt := 32) dX10_payTogether_7 (by decide) (fun c7 => ?_) (fun c7 => ?_)
      · refine aw_iload_n dX10_payTogether_32 rfl ?_
        exact aw_iret dX10_payTogether_33 rfl (⟨congrArg (fun z => some (Value.int z)) heq, rfl, rfl⟩)
      · exact absurd ((nI_leI (a := 6) (b := j) (by omega) (by omega)).mpr (by omega)) c7
    | succ k ih =>
      intro j s hj  heq
      refine aw_iload_n dX10_payTogether_4 rfl ?_
      refine aw_bipush (v := 6) dX10_payTogether_5 (by decide) ?_
      refine aw_icmp_ge (tgt := 32) dX10_payTogether_7 (by decide) (fun c7 => ?_) (fun c7 => ?_)
      · exact absurd ((nI_leI (a := 6) (b := j) (by omega) (by omega)).mp c7) (by omega)
      · refine aw_iload_n dX10_payTogether_10 rfl ?_
        refine aw_iload_n dX10_payTogether_11 rfl ?_
        refine aw_ishr dX10_payTogether_12 ?_
        refine aw_iconst (v := 1) dX10_payTogether_13 (by decide) ?_
        refine aw_iand dX10_payTogether_14 ?_
        refine aw_if_eq (tgt := 26) dX10_payTogether_15 (by decide) (fun c15 => ?_) (fun c15 => ?_)
        · refine aw_inc (w := 1) dX10_payTogether_26 rfl (by decide) (by decide) ?_
          refine aw_goto (tgt := 4) dX10_payTogether_29 (by decide) ?_
          exact aw_loc [0, 1, 2, 3] (ls2 := [(0, .ref t), (1, .int b), (2, .int s), (3, .int (nI (j + 1)))]) (by first | (rw [nI_succ]; rfl) | rfl) (ih (j + 1) s (by omega)  (heq.trans (congrArg (lpSumB (fun j => trG 3 T (nI j)) b k (j + 1)) (if_pos c15))))
        · refine aw_iload_n dX10_payTogether_18 rfl ?_
          refine aw_aload_n dX10_payTogether_19 rfl ?_
          refine aw_iload_n dX10_payTogether_20 rfl ?_
          refine aw_callV1p dX10_payTogether_21 cmX9_payOf cvX10_62 (tr_c0 hT) (Nat.le_of_ble_eq_true rfl) (tX9_payOf hT) ?_
          refine aw_iadd dX10_payTogether_24 ?_
          refine aw_istore_n dX10_payTogether_25 (by decide) ?_
          refine aw_inc (w := 1) dX10_payTogether_26 rfl (by decide) (by decide) ?_
          refine aw_goto (tgt := 4) dX10_payTogether_29 (by decide) ?_
          exact aw_loc [0, 1, 2, 3] (ls2 := [(0, .ref t), (1, .int b), (2, .int _), (3, .int (nI (j + 1)))]) (by first | (rw [nI_succ]; rfl) | rfl) (ih (j + 1) _ (by omega)  (heq.trans (congrArg (lpSumB (fun j => trG 3 T (nI j)) b k (j + 1)) (if_neg c15))))
  exact aw_loc [0, 1, 2, 3] (ls2 := [(0, .ref t), (1, .int b), (2, .int 0), (3, .int (nI 0))]) rfl (key (6) 0 0 (by first | rfl | omega)  rfl)
set_option maxHeartbeats 1000000 in
set_option maxRecDepth 100000 in
theorem tX10_weightTogether {l : Launch} {E : aw_E} {d n w : Nat} {h : ah} {V : sT} (hW : is_wy h w V) {b : Int32} : am l E mX10_weightTogether (d + 1) 0 0 [.ref w, .int b] n h (aw_eq n h (some (.int (wTog V b)))) := by
  refine am_of (by decide +kernel) (Nat.le_of_ble_eq_true rfl) ?_
  refine aw_iconst (v := 0) dX10_weightTogether_0 (by decide) ?_
  refine aw_istore_n dX10_weightTogether_1 (by decide) ?_
  refine aw_iconst (v := 0) dX10_weightTogether_2 (by decide) ?_
  refine aw_istore_n dX10_weightTogether_3 (by decide) ?_
  have key : ∀ (k j : Nat) (s : Int32), j + k = 6 → wTog V b = lpSumB (fun j => wHeft V (nI j)) b k j s → aw l E mX10_weightTogether (aw_Z E (aw_eq n h (some (.int (wTog V b))))) (d + 1) 0 0 4 [(0, .ref w), (1, .int b), (2, .int s), (3, .int (nI j))] [] n h := by
    intro k
    induction k with
    | zero =>
      intro j s hj  heq
      refine aw_iload_n dX10_weightTogether_4 rfl ?_
      refine aw_bipush (v := 6) dX10_weightTogether_5 (by decide) ?_
      refine aw_icmp_ge (tgt := 32) dX10_weightTogether_7 (by decide) (fun c7 => ?_) (fun c7 => ?_)
      · refine aw_iload_n dX10_weightTogether_32 rfl ?_
        exact aw_iret dX10_weightTogether_33 rfl (⟨congrArg (fun z => some (Value.int z)) heq, rfl, rfl⟩)
      · exact absurd ((nI_leI (a := 6) (b := j) (by omega) (by omega)).mpr (by omega)) c7
    | succ k ih =>
      intro j s hj  heq
      refine aw_iload_n dX10_weightTogether_4 rfl ?_
      refine aw_bipush (v := 6) dX10_weightTogether_5 (by decide) ?_
      refine aw_icmp_ge (tgt := 32) dX10_weightTogether_7 (by decide) (fun c7 => ?_) (fun c7 => ?_)
      · exact absurd ((nI_leI (a := 6) (b := j) (by omega) (by omega)).mp c7) (by omega)
      · refine aw_iload_n dX10_weightTogether_10 rfl ?_
        refine aw_iload_n dX10_weightTogether_11 rfl ?_
        refine aw_ishr dX10_weightTogether_12 ?_
        refine aw_iconst (v := 1) dX10_weightTogether_13 (by decide) ?_
        refine aw_iand dX10_weightTogether_14 ?_
        refine aw_if_eq (tgt := 26) dX10_weightTogether_15 (by decide) (fun c15 => ?_) (fun c15 => ?_)
        · refine aw_inc (w := 1) dX10_weightTogether_26 rfl (by decide) (by decide) ?_
          refine aw_goto (tgt := 4) dX10_weightTogether_29 (by decide) ?_
          exact aw_loc [0, 1, 2, 3] (ls2 := [(0, .ref w), (1, .int b), (2, .int s), (3, .int (nI (j + 1)))]) (by first | (rw [nI_succ]; rfl) | rfl) (ih (j + 1) s (by omega)  (heq.trans (congrArg (lpSumB (fun j => wHeft V (nI j)) b k (j + 1)) (if_pos c15))))
        · refine aw_iload_n dX10_weightTogether_18 rfl ?_
          refine aw_aload_n dX10_weightTogether_19 rfl ?_
          refine aw_iload_n dX10_weightTogether_20 rfl ?_
          refine aw_callV1p dX10_weightTogether_21 cmX10_heftOf cvX10_34 (wy_c0 hW) (Nat.le_of_ble_eq_true rfl) (tX10_heftOf hW) ?_
          refine aw_iadd dX10_weightTogether_24 ?_
          refine aw_istore_n dX10_weightTogether_25 (by decide) ?_
          refine aw_inc (w := 1) dX10_weightTogether_26 rfl (by decide) (by decide) ?_
          refine aw_goto (tgt := 4) dX10_weightTogether_29 (by decide) ?_
          exact aw_loc [0, 1, 2, 3] (ls2 := [(0, .ref w), (1, .int b), (2, .int _), (3, .int (nI (j + 1)))]) (by first | (rw [nI_succ]; rfl) | rfl) (ih (j + 1) _ (by omega)  (heq.trans (congrArg (lpSumB (fun j => wHeft V (nI j)) b k (j + 1)) (if_neg c15))))
  exact aw_loc [0, 1, 2, 3] (ls2 := [(0, .ref w), (1, .int b), (2, .int 0), (3, .int (nI 0))]) rfl (key (6) 0 0 (by first | rfl | omega)  rfl)
set_option maxHeartbeats 1000000 in
set_option maxRecDepth 100000 in
theorem tX10_weighers {l : Launch} {E : aw_E} {d n w t : Nat} {h0 : ah} {V0 T : sT} (hW : is_wy h0 w V0) (hT : is_tr h0 t T) (hdw : t + 20 ≤ w) {b n' : Int32} : am l E mX10_weighers (d + 5) 0 0 [.ref w, .ref t, .int b, .int n'] n h0 (wy_post n h0 w (some (.int (wHireF T V0 b n'))) (wEach T n' 6 0 V0)) := by
  refine am_of (by decide +kernel) (Nat.le_of_ble_eq_true rfl) ?_
  have hF : ah_off h0 h0 w 5 := ah_off.rf
  refine aw_aload_n dX10_weighers_0 rfl ?_
  refine aw_aload_n dX10_weighers_1 rfl ?_
  refine aw_iload_n dX10_weighers_2 rfl ?_
  refine aw_callV2e dX10_weighers_3 cmX10_weighEach cvX10_24 (wy_c0 hW) (Nat.le_of_ble_eq_true rfl) (tX10_weighEach hW hT hdw) (fun r n' h' hq => ?_)
  obtain ⟨rfl, rfl, hW, ho⟩ := hq
  have hT := tr_off hT ho (Or.inl hdw)
  have hF := hF.trans ho
  refine aw_iconst (v := 0) dX10_weighers_6 (by decide) ?_
  refine aw_istore dX10_weighers_7 (by decide) ?_
  refine aw_iconst (v := 0) dX10_weighers_9 (by decide) ?_
  refine aw_istore dX10_weighers_10 (by decide) ?_
  have hN1 := clamp_lt (1 <<< (T 10 0 &&& 31) : Int32)
  have key : ∀ (k j : Nat) (x : Int32), j + k = (1 <<< (T 10 0 &&& 31) : Int32).toNatClampNeg → wHireF T V0 b n' = wHire T (wEach T n' 6 0 V0) b k j x → aw l E mX10_weighers (aw_Z E (wy_post n h0 w (some (.int (wHireF T V0 b n'))) (wEach T n' 6 0 V0))) (d + 5) 0 0 12 [(0, .ref w), (1, .ref t), (2, .int b), (4, .int x), (5, .int (nI j))] [] n h' := by
    intro k
    induction k with
    | zero =>
      intro j x hj  heq
      refine aw_iload dX10_weighers_12 rfl ?_
      refine aw_iconst (v := 1) dX10_weighers_14 (by decide) ?_
      refine aw_aload_n dX10_weighers_15 rfl ?_
      refine aw_callV0p dX10_weighers_16 cmX9_people cvX10_28 (tr_c0 hT) (Nat.le_of_ble_eq_true rfl) (tX9_people hT) ?_
      refine aw_ishl dX10_weighers_19 ?_
      refine aw_icmp_ge (tgt := 58) dX10_weighers_20 (by decide) (fun c20 => ?_) (fun c20 => ?_)
      · refine aw_iload dX10_weighers_58 rfl ?_
        exact aw_iret dX10_weighers_60 rfl (⟨congrArg (fun z => some (Value.int z)) heq, rfl, hW, hF⟩)
      · exact absurd ((i_le_nI (x := (1 <<< (T 10 0 &&& 31) : Int32)) (j := j) (by omega)).mpr (by omega)) c20
    | succ k ih =>
      intro j x hj  heq
      refine aw_iload dX10_weighers_12 rfl ?_
      refine aw_iconst (v := 1) dX10_weighers_14 (by decide) ?_
      refine aw_aload_n dX10_weighers_15 rfl ?_
      refine aw_callV0p dX10_weighers_16 cmX9_people cvX10_28 (tr_c0 hT) (Nat.le_of_ble_eq_true rfl) (tX9_people hT) ?_
      refine aw_ishl dX10_weighers_19 ?_
      refine aw_icmp_ge (tgt := 58) dX10_weighers_20 (by decide) (fun c20 => ?_) (fun c20 => ?_)
      · exact absurd ((i_le_nI (x := (1 <<< (T 10 0 &&& 31) : Int32)) (j := j) (by omega)).mp c20) (by omega)
      · refine aw_aload_n dX10_weighers_23 rfl ?_
        refine aw_iload dX10_weighers_24 rfl ?_
        refine aw_callS2p dX10_weighers_26 cmX10_payTogether csX10_56 (Nat.le_of_ble_eq_true rfl) (tX10_payTogether hT) ?_
        refine aw_iload_n dX10_weighers_29 rfl ?_
        refine aw_icmp_gt (tgt := 52) dX10_weighers_30 (by decide) (fun c30 => ?_) (fun c30 => ?_)
        · refine aw_inc (w := 1) dX10_weighers_52 rfl (by decide) (by decide) ?_
          refine aw_goto (tgt := 12) dX10_weighers_55 (by decide) ?_
          exact aw_loc [0, 1, 2, 4, 5] (ls2 := [(0, .ref w), (1, .ref t), (2, .int b), (4, .int x), (5, .int (nI (j + 1)))]) (by first | (rw [nI_succ]; rfl) | rfl) (ih (j + 1) x (by omega)  (heq.trans (congrArg (wHire T (wEach T n' 6 0 V0) b k (j + 1)) (if_pos c30))))
        · refine aw_aload_n dX10_weighers_33 rfl ?_
          refine aw_iload dX10_weighers_34 rfl ?_
          refine aw_callV1p dX10_weighers_36 cmX10_weightTogether cvX10_59 (wy_c0 hW) (Nat.le_of_ble_eq_true rfl) (tX10_weightTogether hW) ?_
          refine aw_aload_n dX10_weighers_39 rfl ?_
          refine aw_iload dX10_weighers_40 rfl ?_
          refine aw_callV1p dX10_weighers_42 cmX10_weightTogether cvX10_59 (wy_c0 hW) (Nat.le_of_ble_eq_true rfl) (tX10_weightTogether hW) ?_
          refine aw_icmp_le (tgt := 52) dX10_weighers_45 (by decide) (fun c45 => ?_) (fun c45 => ?_)
          · refine aw_inc (w := 1) dX10_weighers_52 rfl (by decide) (by decide) ?_
            refine aw_goto (tgt := 12) dX10_weighers_55 (by decide) ?_
            exact aw_loc [0, 1, 2, 4, 5] (ls2 := [(0, .ref w), (1, .ref t), (2, .int b), (4, .int x), (5, .int (nI (j + 1)))]) (by first | (rw [nI_succ]; rfl) | rfl) (ih (j + 1) x (by omega)  (heq.trans (congrArg (wHire T (wEach T n' 6 0 V0) b k (j + 1)) ((if_neg c30).trans (if_pos c45)))))
          · refine aw_iload dX10_weighers_48 rfl ?_
            refine aw_istore dX10_weighers_50 (by decide) ?_
            refine aw_inc (w := 1) dX10_weighers_52 rfl (by decide) (by decide) ?_
            refine aw_goto (tgt := 12) dX10_weighers_55 (by decide) ?_
            exact aw_loc [0, 1, 2, 4, 5] (ls2 := [(0, .ref w), (1, .ref t), (2, .int b), (4, .int (nI j)), (5, .int (nI (j + 1)))]) (by first | (rw [nI_succ]; rfl) | rfl) (ih (j + 1) (nI j) (by omega)  (heq.trans (congrArg (wHire T (wEach T n' 6 0 V0) b k (j + 1)) ((if_neg c30).trans (if_neg c45)))))
  exact aw_loc [0, 1, 2, 4, 5] (ls2 := [(0, .ref w), (1, .ref t), (2, .int b), (4, .int 0), (5, .int (nI 0))]) rfl (key ((1 <<< (T 10 0 &&& 31) : Int32).toNatClampNeg) 0 0 (by first | rfl | omega)  rfl)
set_option maxHeartbeats 1000000 in
set_option maxRecDepth 100000 in
theorem tX10_lightestWith {l : Launch} {E : aw_E} {d n w : Nat} {h : ah} {V : sT} (hW : is_wy h w V) {s b : Int32} : am l E mX10_lightestWith (d + 1) 0 0 [.ref w, .int s, .int b] n h (aw_eq n h (some (.int (wLW V s b)))) := by
  refine am_of (by decide +kernel) (Nat.le_of_ble_eq_true rfl) ?_
  refine aw_iload_n dX10_lightestWith_0 rfl ?_
  refine aw_callS1p dX10_lightestWith_1 cmJ6_bitCount_0f7a4 csX10_89 (Nat.le_of_ble_eq_true rfl) tJ6_bitCount_0f7a4 ?_
  refine aw_istore_n dX10_lightestWith_4 (by decide) ?_
  refine aw_aload_n dX10_lightestWith_5 rfl ?_
  refine aw_iload_n dX10_lightestWith_6 rfl ?_
  refine aw_iload_n dX10_lightestWith_7 rfl ?_
  refine aw_callV2p dX10_lightestWith_8 cmX10_bagWeight cvX10_94 (wy_c0 hW) (Nat.le_of_ble_eq_true rfl) (tX10_bagWeight hW) ?_
  refine aw_aload_n dX10_lightestWith_11 rfl ?_
  refine aw_iload_n dX10_lightestWith_12 rfl ?_
  refine aw_iconst (v := 1) dX10_lightestWith_13 (by decide) ?_
  refine aw_iload_n dX10_lightestWith_14 rfl ?_
  refine aw_ishl dX10_lightestWith_15 ?_
  refine aw_ior dX10_lightestWith_16 ?_
  refine aw_callV1p dX10_lightestWith_17 cmX10_lightestOf cvX10_83 (wy_c0 hW) (Nat.le_of_ble_eq_true rfl) (tX10_lightestOf hW) ?_
  refine aw_mmin dX10_lightestWith_20 mmX10_97 (Nat.le_of_ble_eq_true rfl) ?_
  exact aw_iret dX10_lightestWith_23 rfl (⟨rfl, rfl, rfl⟩)
set_option maxHeartbeats 1000000 in
set_option maxRecDepth 100000 in
theorem tX10_firstBag {l : Launch} {E : aw_E} {d n w : Nat} {h : ah} {V : sT} (hW : is_wy h w V) {s bags : Int32} : am l E mX10_firstBag (d + 2) 0 0 [.ref w, .int s, .int bags] n h (aw_eq n h (some (.int (wFirst V s bags.toNatClampNeg 0)))) := by
  refine am_of (by decide +kernel) (Nat.le_of_ble_eq_true rfl) ?_
  refine aw_iconst (v := 0) dX10_firstBag_0 (by decide) ?_
  refine aw_istore_n dX10_firstBag_1 (by decide) ?_
  have hN1 := clamp_lt bags
  have key : ∀ (k j : Nat), j + k = bags.toNatClampNeg → wFirst V s bags.toNatClampNeg 0 = wFirst V s k j  → aw l E mX10_firstBag (aw_Z E (aw_eq n h (some (.int (wFirst V s bags.toNatClampNeg 0))))) (d + 2) 0 0 2 [(0, .ref w), (1, .int s), (2, .int bags), (3, .int (nI j))] [] n h := by
    intro k
    induction k with
    | zero =>
      intro j  hj  heq
      refine aw_iload_n dX10_firstBag_2 rfl ?_
      refine aw_iload_n dX10_firstBag_3 rfl ?_
      refine aw_icmp_ge (tgt := 37) dX10_firstBag_4 (by decide) (fun c4 => ?_) (fun c4 => ?_)
      · refine aw_iconst (v := 0) dX10_firstBag_37 (by decide) ?_
        exact aw_iret dX10_firstBag_38 rfl (⟨congrArg (fun z => some (Value.int z)) heq, rfl, rfl⟩)
      · exact absurd ((i_le_nI (x := bags) (j := j) (by omega)).mpr (by omega)) c4
    | succ k ih =>
      intro j  hj  heq
      refine aw_iload_n dX10_firstBag_2 rfl ?_
      refine aw_iload_n dX10_firstBag_3 rfl ?_
      refine aw_icmp_ge (tgt := 37) dX10_firstBag_4 (by decide) (fun c4 => ?_) (fun c4 => ?_)
      · exact absurd ((i_le_nI (x := bags) (j := j) (by omega)).mp c4) (by omega)
      · refine aw_iload_n dX10_firstBag_7 rfl ?_
        refine aw_iload_n dX10_firstBag_8 rfl ?_
        refine aw_ishr dX10_firstBag_9 ?_
        refine aw_iconst (v := 1) dX10_firstBag_10 (by decide) ?_
        refine aw_iand dX10_firstBag_11 ?_
        refine aw_if_ne (tgt := 31) dX10_firstBag_12 (by decide) (fun c12 => ?_) (fun c12 => ?_)
        · refine aw_inc (w := 1) dX10_firstBag_31 rfl (by decide) (by decide) ?_
          refine aw_goto (tgt := 2) dX10_firstBag_34 (by decide) ?_
          exact aw_loc [0, 1, 2, 3] (ls2 := [(0, .ref w), (1, .int s), (2, .int bags), (3, .int (nI (j + 1)))]) (by first | (rw [nI_succ]; rfl) | rfl) (ih (j + 1)  (by omega)  (heq.trans (if_neg c12)))
        · refine aw_aload_n dX10_firstBag_15 rfl ?_
          refine aw_iload_n dX10_firstBag_16 rfl ?_
          refine aw_iload_n dX10_firstBag_17 rfl ?_
          refine aw_callV2p dX10_firstBag_18 cmX10_lightestWith cvX10_70 (wy_c0 hW) (Nat.le_of_ble_eq_true rfl) (tX10_lightestWith hW) ?_
          refine aw_aload_n dX10_firstBag_21 rfl ?_
          refine aw_iconst (v := 0) dX10_firstBag_22 (by decide) ?_
          refine aw_callV1p dX10_firstBag_23 cmX10_lightestOf cvX10_83 (wy_c0 hW) (Nat.le_of_ble_eq_true rfl) (tX10_lightestOf hW) ?_
          refine aw_icmp_lt (tgt := 31) dX10_firstBag_26 (by decide) (fun c26 => ?_) (fun c26 => ?_)
          · refine aw_inc (w := 1) dX10_firstBag_31 rfl (by decide) (by decide) ?_
            refine aw_goto (tgt := 2) dX10_firstBag_34 (by decide) ?_
            exact aw_loc [0, 1, 2, 3] (ls2 := [(0, .ref w), (1, .int s), (2, .int bags), (3, .int (nI (j + 1)))]) (by first | (rw [nI_succ]; rfl) | rfl) (ih (j + 1)  (by omega)  (heq.trans ((if_pos c12).trans (if_pos c26))))
          · refine aw_iload_n dX10_firstBag_29 rfl ?_
            exact aw_iret dX10_firstBag_30 rfl (⟨congrArg (fun z => some (Value.int z)) (heq.trans ((if_pos c12).trans (if_neg c26))), rfl, rfl⟩)
  exact aw_loc [0, 1, 2, 3] (ls2 := [(0, .ref w), (1, .int s), (2, .int bags), (3, .int (nI 0))]) rfl (key (bags.toNatClampNeg) 0  (by first | rfl | omega)  rfl)
set_option maxHeartbeats 1000000 in
set_option maxRecDepth 100000 in
theorem tX10_bagOf {l : Launch} {E : aw_E} {d n w : Nat} {h : ah} {V : sT} (hW : is_wy h w V) {p bags : Int32} (hp : ¬ p < 0) : am l E mX10_bagOf (d + 3) 0 0 [.ref w, .int p, .int bags] n h (aw_eq n h (some (.int (wBagOf V bags (min (p.toNatClampNeg + 1) 6) 0 0 0)))) := by
  refine am_of (by decide +kernel) (Nat.le_of_ble_eq_true rfl) ?_
  refine aw_iconst (v := 0) dX10_bagOf_0 (by decide) ?_
  refine aw_istore_n dX10_bagOf_1 (by decide) ?_
  refine aw_iconst (v := 0) dX10_bagOf_2 (by decide) ?_
  refine aw_istore dX10_bagOf_3 (by decide) ?_
  refine aw_iconst (v := 0) dX10_bagOf_5 (by decide) ?_
  refine aw_istore dX10_bagOf_6 (by decide) ?_
  have hN1 := clamp_lt p
  have key : ∀ (k j : Nat) (s tk : Int32), j + k = min (p.toNatClampNeg + 1) 6 → wBagOf V bags (min (p.toNatClampNeg + 1) 6) 0 0 0 = wBagOf V bags k j s tk → aw l E mX10_bagOf (aw_Z E (aw_eq n h (some (.int (wBagOf V bags (min (p.toNatClampNeg + 1) 6) 0 0 0))))) (d + 3) 0 0 8 [(0, .ref w), (1, .int p), (2, .int bags), (3, .int s), (4, .int tk), (5, .int (nI j))] [] n h := by
    intro k
    induction k with
    | zero =>
      intro j s tk hj  heq
      refine aw_iload dX10_bagOf_8 rfl ?_
      refine aw_iload_n dX10_bagOf_10 rfl ?_
      refine aw_icmp_gt (tgt := 42) dX10_bagOf_11 (by decide) (fun c11 => ?_) (fun c11 => ?_)
      · refine aw_iload dX10_bagOf_42 rfl ?_
        exact aw_iret dX10_bagOf_44 rfl (⟨congrArg (fun z => some (Value.int z)) heq, rfl, rfl⟩)
      · refine aw_iload dX10_bagOf_14 rfl ?_
        refine aw_bipush (v := 6) dX10_bagOf_16 (by decide) ?_
        refine aw_icmp_ge (tgt := 42) dX10_bagOf_18 (by decide) (fun c18 => ?_) (fun c18 => ?_)
        · refine aw_iload dX10_bagOf_42 rfl ?_
          exact aw_iret dX10_bagOf_44 rfl (⟨congrArg (fun z => some (Value.int z)) heq, rfl, rfl⟩)
        · have q1 := mt (i_lt_nI (x := p) (j := j) hp (by omega)).mpr c11
          have q2 := mt (nI_leI (a := 6) (b := j) (by omega) (by omega)).mpr c18
          omega
    | succ k ih =>
      intro j s tk hj  heq
      refine aw_iload dX10_bagOf_8 rfl ?_
      refine aw_iload_n dX10_bagOf_10 rfl ?_
      refine aw_icmp_gt (tgt := 42) dX10_bagOf_11 (by decide) (fun c11 => ?_) (fun c11 => ?_)
      · exact absurd ((i_lt_nI (x := p) (j := j) hp (by omega)).mp c11) (by omega)
      · refine aw_iload dX10_bagOf_14 rfl ?_
        refine aw_bipush (v := 6) dX10_bagOf_16 (by decide) ?_
        refine aw_icmp_ge (tgt := 42) dX10_bagOf_18 (by decide) (fun c18 => ?_) (fun c18 => ?_)
        · exact absurd ((nI_leI (a := 6) (b := j) (by omega) (by omega)).mp c18) (by omega)
        · refine aw_aload_n dX10_bagOf_21 rfl ?_
          refine aw_iload_n dX10_bagOf_22 rfl ?_
          refine aw_iload_n dX10_bagOf_23 rfl ?_
          refine aw_callV2p dX10_bagOf_24 cmX10_firstBag cvX10_86 (wy_c0 hW) (Nat.le_of_ble_eq_true rfl) (tX10_firstBag hW) ?_
          refine aw_istore dX10_bagOf_27 (by decide) ?_
          refine aw_iload_n dX10_bagOf_29 rfl ?_
          refine aw_iconst (v := 1) dX10_bagOf_30 (by decide) ?_
          refine aw_iload dX10_bagOf_31 rfl ?_
          refine aw_ishl dX10_bagOf_33 ?_
          refine aw_ior dX10_bagOf_34 ?_
          refine aw_istore_n dX10_bagOf_35 (by decide) ?_
          refine aw_inc (w := 1) dX10_bagOf_36 rfl (by decide) (by decide) ?_
          refine aw_goto (tgt := 8) dX10_bagOf_39 (by decide) ?_
          exact aw_loc [0, 1, 2, 3, 4, 5] (ls2 := [(0, .ref w), (1, .int p), (2, .int bags), (3, .int _), (4, .int _), (5, .int (nI (j + 1)))]) (by first | (rw [nI_succ]; rfl) | rfl) (ih (j + 1) _ _ (by omega)  heq)
  exact aw_loc [0, 1, 2, 3, 4, 5] (ls2 := [(0, .ref w), (1, .int p), (2, .int bags), (3, .int 0), (4, .int 0), (5, .int (nI 0))]) rfl (key (min (p.toNatClampNeg + 1) 6) 0 0 0 (by first | rfl | omega)  rfl)
set_option maxHeartbeats 1000000 in
set_option maxRecDepth 100000 in
theorem tX10_weighBags {l : Launch} {E : aw_E} {d n w t : Nat} {h0 : ah} {V0 T : sT} (hW : is_wy h0 w V0) (hT : is_tr h0 t T) (hdw : t + 20 ≤ w) {a c : Int32} : am l E mX10_weighBags (d + 4) 0 0 [.ref w, .ref t, .int a, .int c] n h0 (wy_post n h0 w (none) (wB1 T a c 6 0 V0)) := by
  refine am_of (by decide +kernel) (Nat.le_of_ble_eq_true rfl) ?_
  have hF : ah_off h0 h0 w 5 := ah_off.rf
  refine aw_iconst (v := 0) dX10_weighBags_0 (by decide) ?_
  refine aw_istore dX10_weighBags_1 (by decide) ?_
  have key : ∀ (k j : Nat) (h : ah) (V : sT), j + k = 6 → is_wy h w V → is_tr h t T → ah_off h0 h w 5 → wB1 T a c 6 0 V0 = wB1 T a c k j V → aw l E mX10_weighBags (aw_Z E (wy_post n h0 w (none) (wB1 T a c 6 0 V0))) (d + 4) 0 0 3 [(0, .ref w), (1, .ref t), (2, .int a), (3, .int c), (4, .int (nI j))] [] n h := by
    intro k
    induction k with
    | zero =>
      intro j h V hj hW hT hF heq
      refine aw_iload dX10_weighBags_3 rfl ?_
      refine aw_bipush (v := 6) dX10_weighBags_5 (by decide) ?_
      refine aw_icmp_ge (tgt := 57) dX10_weighBags_7 (by decide) (fun c7 => ?_) (fun c7 => ?_)
      · exact aw_vret dX10_weighBags_57 rfl (⟨rfl, rfl, is_of (P := is_wy _ w) heq hW, hF⟩)
      · exact absurd ((nI_leI (a := 6) (b := j) (by omega) (by omega)).mpr (by omega)) c7
    | succ k ih =>
      intro j h V hj hW hT hF heq
      refine aw_iload dX10_weighBags_3 rfl ?_
      refine aw_bipush (v := 6) dX10_weighBags_5 (by decide) ?_
      refine aw_icmp_ge (tgt := 57) dX10_weighBags_7 (by decide) (fun c7 => ?_) (fun c7 => ?_)
      · exact absurd ((nI_leI (a := 6) (b := j) (by omega) (by omega)).mp c7) (by omega)
      · refine aw_iconst (v := 0) dX10_weighBags_10 (by decide) ?_
        refine aw_istore dX10_weighBags_11 (by decide) ?_
        have key2 : ∀ (k2 j2 : Nat) (h : ah) (V2 : sT), j2 + k2 = 6 → is_wy h w V2 → is_tr h t T → ah_off h0 h w 5 → wB2 T a c (nI j) 6 0 j V = wB2 T a c (nI j) k2 j2 j V2 → aw l E mX10_weighBags (aw_Z E (wy_post n h0 w (none) (wB1 T a c 6 0 V0))) (d + 4) 0 0 13 [(0, .ref w), (1, .ref t), (2, .int a), (3, .int c), (4, .int (nI j)), (5, .int (nI j2))] [] n h := by
          intro k2
          induction k2 with
          | zero =>
            intro j2 h V2 hj2 hW hT hF heq2
            refine aw_iload dX10_weighBags_13 rfl ?_
            refine aw_bipush (v := 6) dX10_weighBags_15 (by decide) ?_
            refine aw_icmp_ge (tgt := 51) dX10_weighBags_17 (by decide) (fun c17 => ?_) (fun c17 => ?_)
            · refine aw_inc (w := 1) dX10_weighBags_51 rfl (by decide) (by decide) ?_
              refine aw_goto (tgt := 3) dX10_weighBags_54 (by decide) ?_
              exact aw_loc [0, 1, 2, 3, 4] (ls2 := [(0, .ref w), (1, .ref t), (2, .int a), (3, .int c), (4, .int (nI (j + 1)))]) (by first | (rw [nI_succ]; rfl) | rfl) (ih (j + 1) _ _ (by omega) hW hT hF (heq.trans (congrArg (wB1 T a c k (j + 1)) heq2)))
            · exact absurd ((nI_leI (a := 6) (b := j2) (by omega) (by omega)).mpr (by omega)) c17
          | succ k2 ih2 =>
            intro j2 h V2 hj2 hW hT hF heq2
            refine aw_iload dX10_weighBags_13 rfl ?_
            refine aw_bipush (v := 6) dX10_weighBags_15 (by decide) ?_
            refine aw_icmp_ge (tgt := 51) dX10_weighBags_17 (by decide) (fun c17 => ?_) (fun c17 => ?_)
            · exact absurd ((nI_leI (a := 6) (b := j2) (by omega) (by omega)).mp c17) (by omega)
            · refine aw_aload_n dX10_weighBags_20 rfl ?_
              refine aw_get dX10_weighBags_21 flX10_21 (wy_c0 hW) rfl ?_
              refine aw_iload dX10_weighBags_24 rfl ?_
              refine aw_bipush (v := 6) dX10_weighBags_26 (by decide) ?_
              refine aw_imul dX10_weighBags_28 ?_
              refine aw_iload dX10_weighBags_29 rfl ?_
              refine aw_iadd dX10_weighBags_31 ?_
              refine aw_aload_n dX10_weighBags_32 rfl ?_
              refine aw_iload dX10_weighBags_33 rfl ?_
              refine aw_iload_n dX10_weighBags_35 rfl ?_
              refine aw_iload dX10_weighBags_36 rfl ?_
              refine aw_iload_n dX10_weighBags_38 rfl ?_
              refine aw_imul dX10_weighBags_39 ?_
              refine aw_iadd dX10_weighBags_40 ?_
              refine aw_callV2p dX10_weighBags_41 cmX9_weightWith cvX10_100 (tr_c0 hT) (Nat.le_of_ble_eq_true rfl) (tX9_weightWith hT) ?_
              refine aw_iN_wy3 dX10_weighBags_44 hW (show nI j * 6 + nI j2 = nI (j * 6 + j2) by rw [← nI_add, ← pk_mul]; rfl) (by omega) (fun h hW ho => ?_)
              have hT := tr_off hT ho (Or.inl hdw)
              have hF := hF.trans ho
              refine aw_inc (w := 1) dX10_weighBags_45 rfl (by decide) (by decide) ?_
              refine aw_goto (tgt := 13) dX10_weighBags_48 (by decide) ?_
              exact aw_loc [0, 1, 2, 3, 4, 5] (ls2 := [(0, .ref w), (1, .ref t), (2, .int a), (3, .int c), (4, .int (nI j)), (5, .int (nI (j2 + 1)))]) (by first | (rw [nI_succ]; rfl) | rfl) (ih2 (j2 + 1) _ _ (by omega) hW hT hF heq2)
        exact aw_loc [0, 1, 2, 3, 4, 5] (ls2 := [(0, .ref w), (1, .ref t), (2, .int a), (3, .int c), (4, .int (nI j)), (5, .int (nI 0))]) rfl (key2 (6) 0 _ _ (by first | rfl | omega) hW hT hF rfl)
  exact aw_loc [0, 1, 2, 3, 4] (ls2 := [(0, .ref w), (1, .ref t), (2, .int a), (3, .int c), (4, .int (nI 0))]) rfl (key (6) 0 _ _ (by first | rfl | omega) hW hT hF rfl)
