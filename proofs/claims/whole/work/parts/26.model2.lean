/-! THE REFERENCE, second part. -/
theorem yr_s {s : Int32} (h : ¬ iW s 0 999999 = 0) : 0 ≤ s.toInt64.toInt ∧ s.toInt64.toInt < 2147483648 := by
  unfold iW at h
  have e : s.toInt64.toInt = s.toInt := by simp
  rw [e]
  have := s.toInt_lt
  by_cases h1 : s < 0
  · rw [if_pos h1] at h; exact absurd rfl h
  · rw [fa_lt] at h1
    have e0 : (0 : Int32).toInt = 0 := by decide
    omega
set_option maxHeartbeats 1000000 in
set_option maxRecDepth 100000 in
theorem tX12_years {l : Launch} {E : aw_E} {d n m : Nat} {h0 : ah} {S0 : sT} {L0 : Nat → Int64} (hM : is_mo h0 m S0 L0) {s m' : Int32} {M : Nat} (hm : S0 30 0 = nI M) (hm6 : M ≤ 6) : am l E mX12_years (d + 5) 0 0 [.ref m, .int s, .int m'] n h0 (mo_post n h0 m (mYears S0 L0 s m')) := by
  refine am_of (by decide +kernel) (Nat.le_of_ble_eq_true rfl) ?_
  have hF : ah_off h0 h0 m 21 := ah_off.rf
  refine aw_iload_n dX12_years_0 rfl ?_
  refine aw_iconst (v := 0) dX12_years_1 (by decide) ?_
  refine aw_ldc dX12_years_2 kcX12_251 ?_
  refine aw_callS3p dX12_years_4 cmX12_in csX12_93 (Nat.le_of_ble_eq_true rfl) tX12_in ?_
  refine aw_if_eq (tgt := 20) dX12_years_7 (by decide) (fun c7 => ?_) (fun c7 => ?_)
  · refine aw_aload_n dX12_years_20 rfl ?_
    refine aw_callV0e dX12_years_21 cmX12_bad cvX12_97 (mo_c0 hM) (Nat.le_of_ble_eq_true rfl) (tX12_bad hM) (fun r n' h' hq => ?_)
    obtain ⟨rfl, rfl, hM, ho⟩ := hq
    have hF := hF.trans ho
    exact aw_iret dX12_years_24 rfl (mo_fin (if_pos c7) hM hF)
  · refine aw_iload_n dX12_years_10 rfl ?_
    refine aw_iconst (v := 0) dX12_years_11 (by decide) ?_
    refine aw_bipush (v := 60) dX12_years_12 (by decide) ?_
    refine aw_callS3p dX12_years_14 cmX12_in csX12_93 (Nat.le_of_ble_eq_true rfl) tX12_in ?_
    refine aw_if_ne (tgt := 25) dX12_years_17 (by decide) (fun c17 => ?_) (fun c17 => ?_)
    · refine aw_aload_n dX12_years_25 rfl ?_
      refine aw_callV0e dX12_years_26 cmX12_puts cvX12_252 (mo_c0 hM) (Nat.le_of_ble_eq_true rfl) (tX12_puts hM) (fun r n' h' hq => ?_)
      obtain ⟨rfl, rfl, hM, ho⟩ := hq
      have hF := hF.trans ho
      refine aw_iload_n dX12_years_29 rfl ?_
      refine aw_i2l dX12_years_30 rfl ?_
      refine aw_lstore_n dX12_years_31 (by decide) ?_
      refine aw_iconst (v := 0) dX12_years_32 (by decide) ?_
      refine aw_istore dX12_years_33 (by decide) ?_
      have hN1 := clamp_lt m'
      have key : ∀ (k j : Nat) (h : ah) (y : Int64) (S : sT), j + k = m'.toNatClampNeg → 0 ≤ y.toInt → y.toInt < 2147483648 → S 30 0 = nI M → is_mo h m S L0 → ah_off h0 h m 21 → mYrE S0 s m' = mYrL k j y S → aw l E mX12_years (aw_Z E (mo_post n h0 m (mYears S0 L0 s m'))) (d + 5) 0 0 35 [(0, .ref m), (2, .int m'), (3, .long y), (5, .int (nI j))] [] n h := by
        intro k
        induction k with
        | zero =>
          intro j h y S hj hy0 hy1 hmk hM hF heq
          refine aw_iload dX12_years_35 rfl ?_
          refine aw_iload_n dX12_years_37 rfl ?_
          refine aw_icmp_ge (tgt := 111) dX12_years_38 (by decide) (fun c38 => ?_) (fun c38 => ?_)
          · refine aw_aload_n dX12_years_111 rfl ?_
            refine aw_callV0p dX12_years_112 cmX12_all cvX12_269 (mo_c0 hM) (Nat.le_of_ble_eq_true rfl) (tX12_all hM (by exact hmk) hm6) ?_
            refine aw_istore dX12_years_115 (by decide) ?_
            refine aw_aload_n dX12_years_117 rfl ?_
            refine aw_callV0e dX12_years_118 cmX12_back cvX12_272 (mo_c0 hM) (Nat.le_of_ble_eq_true rfl) (tX12_back hM) (fun r n' h' hq => ?_)
            obtain ⟨rfl, rfl, hM, ho⟩ := hq
            have hF := hF.trans ho
            refine aw_iload dX12_years_121 rfl ?_
            exact aw_iret dX12_years_123 rfl (mo_fin ((if_neg c7).trans ((if_neg c17).trans (congrArg (fun z : sT => (mAllW z, mTak 13 0 z, L0)) heq))) hM hF)
          · exact absurd ((i_le_nI (x := m') (j := j) (by omega)).mpr (by omega)) c38
        | succ k ih =>
          intro j h y S hj hy0 hy1 hmk hM hF heq
          refine aw_iload dX12_years_35 rfl ?_
          refine aw_iload_n dX12_years_37 rfl ?_
          refine aw_icmp_ge (tgt := 111) dX12_years_38 (by decide) (fun c38 => ?_) (fun c38 => ?_)
          · exact absurd ((i_le_nI (x := m') (j := j) (by omega)).mp c38) (by omega)
          · refine aw_lload_n dX12_years_41 rfl ?_
            refine aw_ldc2 dX12_years_42 klX12_255 ?_
            refine aw_lmul dX12_years_45 ?_
            refine aw_ldc2 dX12_years_46 klX12_257 ?_
            refine aw_ladd dX12_years_49 ?_
            refine aw_ldc2 dX12_years_50 klX12_259 ?_
            refine aw_lrem dX12_years_53 (by decide) ?_
            refine aw_lstore_n dX12_years_54 (by decide) ?_
            refine aw_lload_n dX12_years_55 rfl ?_
            refine aw_ldc2 dX12_years_56 klX12_261 ?_
            refine aw_ldiv dX12_years_59 (by decide) ?_
            refine aw_ldc2 dX12_years_60 klX12_263 ?_
            refine aw_lrem dX12_years_63 (by decide) ?_
            refine aw_l2i dX12_years_64 rfl ?_
            refine aw_istore dX12_years_65 (by decide) ?_
            refine aw_lload_n dX12_years_67 rfl ?_
            refine aw_ldc2 dX12_years_68 klX12_265 ?_
            refine aw_ldiv dX12_years_71 (by decide) ?_
            refine aw_ldc2 dX12_years_72 klX12_267 ?_
            refine aw_lrem dX12_years_75 (by decide) ?_
            refine aw_l2i dX12_years_76 rfl ?_
            refine aw_istore dX12_years_77 (by decide) ?_
            refine aw_iload dX12_years_79 rfl ?_
            refine aw_if_le (tgt := 101) dX12_years_81 (by decide) (fun c81 => ?_) (fun c81 => ?_)
            · refine aw_aload_n dX12_years_101 rfl ?_
              refine aw_callV0e dX12_years_102 cmX12_pass cvX12_212 (mo_c0 hM) (Nat.le_of_ble_eq_true rfl) (tX12_pass hM (by exact hmk) hm6) (fun r n' h' hq => ?_)
              obtain ⟨rfl, rfl, hM, ho⟩ := hq
              have hF := hF.trans ho
              have hmk := (mPass_30 _ (by decide) (by decide)).trans hmk
              refine aw_inc (w := 1) dX12_years_105 rfl (by decide) (by decide) ?_
              refine aw_goto (tgt := 35) dX12_years_108 (by decide) ?_
              exact aw_loc [0, 2, 3, 5] (ls2 := [(0, .ref m), (2, .int m'), (3, .long (yX y)), (5, .int (nI (j + 1)))]) (by first | (rw [nI_succ]; rfl) | rfl) (ih (j + 1) _ (yX y) _ (by omega) (yX_ok hy0 hy1).1 (yX_ok hy0 hy1).2 hmk hM hF (heq.trans (if_pos c81)))
            · refine aw_iload dX12_years_84 rfl ?_
              refine aw_aload_n dX12_years_86 rfl ?_
              refine aw_get dX12_years_87 flX12_77 (mo_c0 hM) rfl ?_
              refine aw_icmp_ge (tgt := 101) dX12_years_90 (by decide) (fun c90 => ?_) (fun c90 => ?_)
              · refine aw_aload_n dX12_years_101 rfl ?_
                refine aw_callV0e dX12_years_102 cmX12_pass cvX12_212 (mo_c0 hM) (Nat.le_of_ble_eq_true rfl) (tX12_pass hM (by exact hmk) hm6) (fun r n' h' hq => ?_)
                obtain ⟨rfl, rfl, hM, ho⟩ := hq
                have hF := hF.trans ho
                have hmk := (mPass_30 _ (by decide) (by decide)).trans hmk
                refine aw_inc (w := 1) dX12_years_105 rfl (by decide) (by decide) ?_
                refine aw_goto (tgt := 35) dX12_years_108 (by decide) ?_
                exact aw_loc [0, 2, 3, 5] (ls2 := [(0, .ref m), (2, .int m'), (3, .long (yX y)), (5, .int (nI (j + 1)))]) (by first | (rw [nI_succ]; rfl) | rfl) (ih (j + 1) _ (yX y) _ (by omega) (yX_ok hy0 hy1).1 (yX_ok hy0 hy1).2 hmk hM hF (heq.trans ((if_neg c81).trans (if_pos c90))))
              · refine aw_aload_n dX12_years_93 rfl ?_
                refine aw_iload dX12_years_94 rfl ?_
                refine aw_iload dX12_years_96 rfl ?_
                refine aw_callV2e dX12_years_98 cmX12_lies cvX12_205 (mo_c0 hM) (Nat.le_of_ble_eq_true rfl) (tX12_lies hM (yP_in (yX_ok hy0 hy1).1 (yX_ok hy0 hy1).2)) (fun r n' h' hq => ?_)
                obtain ⟨rfl, rfl, hM, ho⟩ := hq
                have hF := hF.trans ho
                have hmk : mLies S (yP (yX y)) (yS (yX y)) 30 0 = nI M := hmk
                refine aw_aload_n dX12_years_101 rfl ?_
                refine aw_callV0e dX12_years_102 cmX12_pass cvX12_212 (mo_c0 hM) (Nat.le_of_ble_eq_true rfl) (tX12_pass hM (by exact hmk) hm6) (fun r n' h' hq => ?_)
                obtain ⟨rfl, rfl, hM, ho⟩ := hq
                have hF := hF.trans ho
                have hmk := (mPass_30 _ (by decide) (by decide)).trans hmk
                refine aw_inc (w := 1) dX12_years_105 rfl (by decide) (by decide) ?_
                refine aw_goto (tgt := 35) dX12_years_108 (by decide) ?_
                exact aw_loc [0, 2, 3, 5] (ls2 := [(0, .ref m), (2, .int m'), (3, .long (yX y)), (5, .int (nI (j + 1)))]) (by first | (rw [nI_succ]; rfl) | rfl) (ih (j + 1) _ (yX y) _ (by omega) (yX_ok hy0 hy1).1 (yX_ok hy0 hy1).2 hmk hM hF (heq.trans ((if_neg c81).trans (if_neg c90))))
      exact aw_loc [0, 2, 3, 5] (ls2 := [(0, .ref m), (2, .int m'), (3, .long s.toInt64), (5, .int (nI 0))]) rfl (key (m'.toNatClampNeg) 0 _ s.toInt64 _ (by first | rfl | omega) (yr_s c7).1 (yr_s c7).2 ((congrFun (mLay_r 13 0 (by decide) S0) 0).trans hm) hM hF rfl)
    · refine aw_aload_n dX12_years_20 rfl ?_
      refine aw_callV0e dX12_years_21 cmX12_bad cvX12_97 (mo_c0 hM) (Nat.le_of_ble_eq_true rfl) (tX12_bad hM) (fun r n' h' hq => ?_)
      obtain ⟨rfl, rfl, hM, ho⟩ := hq
      have hF := hF.trans ho
      exact aw_iret dX12_years_24 rfl (mo_fin ((if_neg c7).trans (if_pos c17)) hM hF)
set_option maxHeartbeats 1000000 in
set_option maxRecDepth 100000 in
theorem tX12_hire {l : Launch} {E : aw_E} {d n m : Nat} {h0 : ah} {S0 : sT} {L0 : Nat → Int64} (hM : is_mo h0 m S0 L0) {b m' w : Int32} {M : Nat} (hm : S0 30 0 = nI M) (hm6 : M ≤ 6) : am l E mX12_hire (d + 3) 0 0 [.ref m, .int b, .int m', .int w] n h0 (mo_post n h0 m (mHireF S0 L0 b m' w)) := by
  refine am_of (by decide +kernel) (Nat.le_of_ble_eq_true rfl) ?_
  have hF : ah_off h0 h0 m 21 := ah_off.rf
  refine aw_iload_n dX12_hire_0 rfl ?_
  refine aw_iconst (v := 0) dX12_hire_1 (by decide) ?_
  refine aw_bipush (v := 120) dX12_hire_2 (by decide) ?_
  refine aw_callS3p dX12_hire_4 cmX12_in csX12_93 (Nat.le_of_ble_eq_true rfl) tX12_in ?_
  refine aw_if_eq (tgt := 29) dX12_hire_7 (by decide) (fun c7 => ?_) (fun c7 => ?_)
  · refine aw_aload_n dX12_hire_29 rfl ?_
    refine aw_callV0e dX12_hire_30 cmX12_bad cvX12_97 (mo_c0 hM) (Nat.le_of_ble_eq_true rfl) (tX12_bad hM) (fun r n' h' hq => ?_)
    obtain ⟨rfl, rfl, hM, ho⟩ := hq
    have hF := hF.trans ho
    exact aw_iret dX12_hire_33 rfl (mo_fin (if_pos c7) hM hF)
  · refine aw_iload_n dX12_hire_10 rfl ?_
    refine aw_iconst (v := 0) dX12_hire_11 (by decide) ?_
    refine aw_bipush (v := 99) dX12_hire_12 (by decide) ?_
    refine aw_callS3p dX12_hire_14 cmX12_in csX12_93 (Nat.le_of_ble_eq_true rfl) tX12_in ?_
    refine aw_if_eq (tgt := 29) dX12_hire_17 (by decide) (fun c17 => ?_) (fun c17 => ?_)
    · refine aw_aload_n dX12_hire_29 rfl ?_
      refine aw_callV0e dX12_hire_30 cmX12_bad cvX12_97 (mo_c0 hM) (Nat.le_of_ble_eq_true rfl) (tX12_bad hM) (fun r n' h' hq => ?_)
      obtain ⟨rfl, rfl, hM, ho⟩ := hq
      have hF := hF.trans ho
      exact aw_iret dX12_hire_33 rfl (mo_fin ((if_neg c7).trans (if_pos c17)) hM hF)
    · refine aw_iload_n dX12_hire_20 rfl ?_
      refine aw_iconst (v := 0) dX12_hire_21 (by decide) ?_
      refine aw_iconst (v := 1) dX12_hire_22 (by decide) ?_
      refine aw_callS3p dX12_hire_23 cmX12_in csX12_93 (Nat.le_of_ble_eq_true rfl) tX12_in ?_
      refine aw_if_ne (tgt := 34) dX12_hire_26 (by decide) (fun c26 => ?_) (fun c26 => ?_)
      · refine aw_iconst (v := 0) dX12_hire_34 (by decide) ?_
        refine aw_istore dX12_hire_35 (by decide) ?_
        refine aw_iconst (v := -1) dX12_hire_37 (by decide) ?_
        refine aw_istore dX12_hire_38 (by decide) ?_
        refine aw_iconst (v := 0) dX12_hire_40 (by decide) ?_
        refine aw_istore dX12_hire_41 (by decide) ?_
        have hN1 := clamp_lt (1 <<< (S0 30 0 &&& 31) : Int32)
        have hN := clamp_lt (S0 30 0)
        have hN6 : (S0 30 0).toNatClampNeg ≤ 6 := by rw [hm, nI_clamp (by omega)]; exact hm6
        have key : ∀ (k j : Nat) (x y : Int32), j + k = (1 <<< (S0 30 0 &&& 31) : Int32).toNatClampNeg → mHire S0 b m' = mHiO S0 b m' k j x y → aw l E mX12_hire (aw_Z E (mo_post n h0 m (mHireF S0 L0 b m' w))) (d + 3) 0 0 43 [(0, .ref m), (1, .int b), (2, .int m'), (3, .int w), (4, .int x), (5, .int y), (6, .int (nI j))] [] n h0 := by
          intro k
          induction k with
          | zero =>
            intro j x y hj  heq
            refine aw_iload dX12_hire_43 rfl ?_
            refine aw_iconst (v := 1) dX12_hire_45 (by decide) ?_
            refine aw_aload_n dX12_hire_46 rfl ?_
            refine aw_get dX12_hire_47 flX12_77 (mo_c0 hM) rfl ?_
            refine aw_ishl dX12_hire_50 ?_
            refine aw_icmp_ge (tgt := 184) dX12_hire_51 (by decide) (fun c51 => ?_) (fun c51 => ?_)
            · refine aw_iload_n dX12_hire_184 rfl ?_
              refine aw_if_ne (tgt := 193) dX12_hire_185 (by decide) (fun c185 => ?_) (fun c185 => ?_)
              · refine aw_iload dX12_hire_193 rfl ?_
                exact aw_iret dX12_hire_195 rfl (mo_fin ((if_neg c7).trans ((if_neg c17).trans ((if_neg c26).trans ((if_neg c185).trans (congrArg (fun z : Int32 × Int32 => (z.2, S0, L0)) heq))))) hM hF)
              · refine aw_iload dX12_hire_188 rfl ?_
                refine aw_goto (tgt := 195) dX12_hire_190 (by decide) ?_
                exact aw_iret dX12_hire_195 rfl (mo_fin ((if_neg c7).trans ((if_neg c17).trans ((if_neg c26).trans ((if_pos c185).trans (congrArg (fun z : Int32 × Int32 => (z.1, S0, L0)) heq))))) hM hF)
            · exact absurd ((i_le_nI (x := (1 <<< (S0 30 0 &&& 31) : Int32)) (j := j) (by omega)).mpr (by omega)) c51
          | succ k ih =>
            intro j x y hj  heq
            refine aw_iload dX12_hire_43 rfl ?_
            refine aw_iconst (v := 1) dX12_hire_45 (by decide) ?_
            refine aw_aload_n dX12_hire_46 rfl ?_
            refine aw_get dX12_hire_47 flX12_77 (mo_c0 hM) rfl ?_
            refine aw_ishl dX12_hire_50 ?_
            refine aw_icmp_ge (tgt := 184) dX12_hire_51 (by decide) (fun c51 => ?_) (fun c51 => ?_)
            · exact absurd ((i_le_nI (x := (1 <<< (S0 30 0 &&& 31) : Int32)) (j := j) (by omega)).mp c51) (by omega)
            · refine aw_iconst (v := 0) dX12_hire_54 (by decide) ?_
              refine aw_istore dX12_hire_55 (by decide) ?_
              refine aw_iconst (v := 0) dX12_hire_57 (by decide) ?_
              refine aw_istore dX12_hire_58 (by decide) ?_
              refine aw_iconst (v := 0) dX12_hire_60 (by decide) ?_
              refine aw_istore dX12_hire_61 (by decide) ?_
              have key2 : ∀ (k2 j2 : Nat) (p' s' : Int32), j2 + k2 = (S0 30 0).toNatClampNeg → mHiI S0 m' (nI j) (S0 30 0).toNatClampNeg 0 0 0 = mHiI S0 m' (nI j) k2 j2 p' s' → aw l E mX12_hire (aw_Z E (mo_post n h0 m (mHireF S0 L0 b m' w))) (d + 3) 0 0 63 [(0, .ref m), (1, .int b), (2, .int m'), (3, .int w), (4, .int x), (5, .int y), (6, .int (nI j)), (7, .int p'), (8, .int s'), (9, .int (nI j2))] [] n h0 := by
                intro k2
                induction k2 with
                | zero =>
                  intro j2 p' s' hj2  heq2
                  refine aw_iload dX12_hire_63 rfl ?_
                  refine aw_aload_n dX12_hire_65 rfl ?_
                  refine aw_get dX12_hire_66 flX12_77 (mo_c0 hM) rfl ?_
                  refine aw_icmp_ge (tgt := 130) dX12_hire_69 (by decide) (fun c69 => ?_) (fun c69 => ?_)
                  · refine aw_iload dX12_hire_130 rfl ?_
                    refine aw_iload_n dX12_hire_132 rfl ?_
                    refine aw_icmp_gt (tgt := 147) dX12_hire_133 (by decide) (fun c133 => ?_) (fun c133 => ?_)
                    · refine aw_iconst (v := 0) dX12_hire_147 (by decide) ?_
                      refine aw_istore dX12_hire_148 (by decide) ?_
                      refine aw_iload dX12_hire_150 rfl ?_
                      refine aw_if_eq (tgt := 160) dX12_hire_152 (by decide) (fun c152 => ?_) (fun c152 => ?_)
                      · refine aw_iload dX12_hire_160 rfl ?_
                        refine aw_istore dX12_hire_162 (by decide) ?_
                        refine aw_iload dX12_hire_164 rfl ?_
                        refine aw_if_eq (tgt := 174) dX12_hire_166 (by decide) (fun c166 => ?_) (fun c166 => ?_)
                        · refine aw_iload dX12_hire_174 rfl ?_
                          refine aw_istore dX12_hire_176 (by decide) ?_
                          refine aw_inc (w := 1) dX12_hire_178 rfl (by decide) (by decide) ?_
                          refine aw_goto (tgt := 43) dX12_hire_181 (by decide) ?_
                          exact aw_loc [0, 1, 2, 3, 4, 5, 6] (ls2 := [(0, .ref m), (1, .int b), (2, .int m'), (3, .int w), (4, .int x), (5, .int y), (6, .int (nI (j + 1)))]) (by first | (rw [nI_succ]; rfl) | rfl) (ih (j + 1) x y (by omega)  (mHiO_a heq heq2 c133))
                        · refine aw_iload dX12_hire_169 rfl ?_
                          refine aw_goto (tgt := 176) dX12_hire_171 (by decide) ?_
                          refine aw_istore dX12_hire_176 (by decide) ?_
                          refine aw_inc (w := 1) dX12_hire_178 rfl (by decide) (by decide) ?_
                          refine aw_goto (tgt := 43) dX12_hire_181 (by decide) ?_
                          exact absurd rfl c166
                      · refine aw_iload dX12_hire_155 rfl ?_
                        refine aw_goto (tgt := 162) dX12_hire_157 (by decide) ?_
                        refine aw_istore dX12_hire_162 (by decide) ?_
                        refine aw_iload dX12_hire_164 rfl ?_
                        refine aw_if_eq (tgt := 174) dX12_hire_166 (by decide) (fun c166 => ?_) (fun c166 => ?_)
                        · refine aw_iload dX12_hire_174 rfl ?_
                          refine aw_istore dX12_hire_176 (by decide) ?_
                          refine aw_inc (w := 1) dX12_hire_178 rfl (by decide) (by decide) ?_
                          refine aw_goto (tgt := 43) dX12_hire_181 (by decide) ?_
                          exact absurd rfl c152
                        · refine aw_iload dX12_hire_169 rfl ?_
                          refine aw_goto (tgt := 176) dX12_hire_171 (by decide) ?_
                          refine aw_istore dX12_hire_176 (by decide) ?_
                          refine aw_inc (w := 1) dX12_hire_178 rfl (by decide) (by decide) ?_
                          refine aw_goto (tgt := 43) dX12_hire_181 (by decide) ?_
                          exact absurd rfl c152
                    · refine aw_iload dX12_hire_136 rfl ?_
                      refine aw_iload dX12_hire_138 rfl ?_
                      refine aw_icmp_le (tgt := 147) dX12_hire_140 (by decide) (fun c140 => ?_) (fun c140 => ?_)
                      · refine aw_iconst (v := 0) dX12_hire_147 (by decide) ?_
                        refine aw_istore dX12_hire_148 (by decide) ?_
                        refine aw_iload dX12_hire_150 rfl ?_
                        refine aw_if_eq (tgt := 160) dX12_hire_152 (by decide) (fun c152 => ?_) (fun c152 => ?_)
                        · refine aw_iload dX12_hire_160 rfl ?_
                          refine aw_istore dX12_hire_162 (by decide) ?_
                          refine aw_iload dX12_hire_164 rfl ?_
                          refine aw_if_eq (tgt := 174) dX12_hire_166 (by decide) (fun c166 => ?_) (fun c166 => ?_)
                          · refine aw_iload dX12_hire_174 rfl ?_
                            refine aw_istore dX12_hire_176 (by decide) ?_
                            refine aw_inc (w := 1) dX12_hire_178 rfl (by decide) (by decide) ?_
                            refine aw_goto (tgt := 43) dX12_hire_181 (by decide) ?_
                            exact aw_loc [0, 1, 2, 3, 4, 5, 6] (ls2 := [(0, .ref m), (1, .int b), (2, .int m'), (3, .int w), (4, .int x), (5, .int y), (6, .int (nI (j + 1)))]) (by first | (rw [nI_succ]; rfl) | rfl) (ih (j + 1) x y (by omega)  (mHiO_b heq heq2 c133 c140))
                          · refine aw_iload dX12_hire_169 rfl ?_
                            refine aw_goto (tgt := 176) dX12_hire_171 (by decide) ?_
                            refine aw_istore dX12_hire_176 (by decide) ?_
                            refine aw_inc (w := 1) dX12_hire_178 rfl (by decide) (by decide) ?_
                            refine aw_goto (tgt := 43) dX12_hire_181 (by decide) ?_
                            exact absurd rfl c166
                        · refine aw_iload dX12_hire_155 rfl ?_
                          refine aw_goto (tgt := 162) dX12_hire_157 (by decide) ?_
                          refine aw_istore dX12_hire_162 (by decide) ?_
                          refine aw_iload dX12_hire_164 rfl ?_
                          refine aw_if_eq (tgt := 174) dX12_hire_166 (by decide) (fun c166 => ?_) (fun c166 => ?_)
                          · refine aw_iload dX12_hire_174 rfl ?_
                            refine aw_istore dX12_hire_176 (by decide) ?_
                            refine aw_inc (w := 1) dX12_hire_178 rfl (by decide) (by decide) ?_
                            refine aw_goto (tgt := 43) dX12_hire_181 (by decide) ?_
                            exact absurd rfl c152
                          · refine aw_iload dX12_hire_169 rfl ?_
                            refine aw_goto (tgt := 176) dX12_hire_171 (by decide) ?_
                            refine aw_istore dX12_hire_176 (by decide) ?_
                            refine aw_inc (w := 1) dX12_hire_178 rfl (by decide) (by decide) ?_
                            refine aw_goto (tgt := 43) dX12_hire_181 (by decide) ?_
                            exact absurd rfl c152
                      · refine aw_iconst (v := 1) dX12_hire_143 (by decide) ?_
                        refine aw_goto (tgt := 148) dX12_hire_144 (by decide) ?_
                        refine aw_istore dX12_hire_148 (by decide) ?_
                        refine aw_iload dX12_hire_150 rfl ?_
                        refine aw_if_eq (tgt := 160) dX12_hire_152 (by decide) (fun c152 => ?_) (fun c152 => ?_)
                        · refine aw_iload dX12_hire_160 rfl ?_
                          refine aw_istore dX12_hire_162 (by decide) ?_
                          refine aw_iload dX12_hire_164 rfl ?_
                          refine aw_if_eq (tgt := 174) dX12_hire_166 (by decide) (fun c166 => ?_) (fun c166 => ?_)
                          · refine aw_iload dX12_hire_174 rfl ?_
                            refine aw_istore dX12_hire_176 (by decide) ?_
                            refine aw_inc (w := 1) dX12_hire_178 rfl (by decide) (by decide) ?_
                            refine aw_goto (tgt := 43) dX12_hire_181 (by decide) ?_
                            exact absurd c152 (by decide)
                          · refine aw_iload dX12_hire_169 rfl ?_
                            refine aw_goto (tgt := 176) dX12_hire_171 (by decide) ?_
                            refine aw_istore dX12_hire_176 (by decide) ?_
                            refine aw_inc (w := 1) dX12_hire_178 rfl (by decide) (by decide) ?_
                            refine aw_goto (tgt := 43) dX12_hire_181 (by decide) ?_
                            exact absurd c152 (by decide)
                        · refine aw_iload dX12_hire_155 rfl ?_
                          refine aw_goto (tgt := 162) dX12_hire_157 (by decide) ?_
                          refine aw_istore dX12_hire_162 (by decide) ?_
                          refine aw_iload dX12_hire_164 rfl ?_
                          refine aw_if_eq (tgt := 174) dX12_hire_166 (by decide) (fun c166 => ?_) (fun c166 => ?_)
                          · refine aw_iload dX12_hire_174 rfl ?_
                            refine aw_istore dX12_hire_176 (by decide) ?_
                            refine aw_inc (w := 1) dX12_hire_178 rfl (by decide) (by decide) ?_
                            refine aw_goto (tgt := 43) dX12_hire_181 (by decide) ?_
                            exact absurd c166 (by decide)
                          · refine aw_iload dX12_hire_169 rfl ?_
                            refine aw_goto (tgt := 176) dX12_hire_171 (by decide) ?_
                            refine aw_istore dX12_hire_176 (by decide) ?_
                            refine aw_inc (w := 1) dX12_hire_178 rfl (by decide) (by decide) ?_
                            refine aw_goto (tgt := 43) dX12_hire_181 (by decide) ?_
                            exact aw_loc [0, 1, 2, 3, 4, 5, 6] (ls2 := [(0, .ref m), (1, .int b), (2, .int m'), (3, .int w), (4, .int (nI j)), (5, .int s'), (6, .int (nI (j + 1)))]) (by first | (rw [nI_succ]; rfl) | rfl) (ih (j + 1) (nI j) s' (by omega)  (mHiO_c heq heq2 c133 c140))
                  · exact absurd ((i_le_nI (x := S0 30 0) (j := j2) (by omega)).mpr (by omega)) c69
                | succ k2 ih2 =>
                  intro j2 p' s' hj2  heq2
                  refine aw_iload dX12_hire_63 rfl ?_
                  refine aw_aload_n dX12_hire_65 rfl ?_
                  refine aw_get dX12_hire_66 flX12_77 (mo_c0 hM) rfl ?_
                  refine aw_icmp_ge (tgt := 130) dX12_hire_69 (by decide) (fun c69 => ?_) (fun c69 => ?_)
                  · exact absurd ((i_le_nI (x := S0 30 0) (j := j2) (by omega)).mp c69) (by omega)
                  · refine aw_iload dX12_hire_72 rfl ?_
                    refine aw_iload dX12_hire_74 rfl ?_
                    refine aw_iload dX12_hire_76 rfl ?_
                    refine aw_callS2p dX12_hire_78 cmX12_has csX12_199 (Nat.le_of_ble_eq_true rfl) tX12_has ?_
                    refine aw_if_eq (tgt := 94) dX12_hire_81 (by decide) (fun c81 => ?_) (fun c81 => ?_)
                    · refine aw_iconst (v := 0) dX12_hire_94 (by decide) ?_
                      refine aw_iadd dX12_hire_95 ?_
                      refine aw_istore dX12_hire_96 (by decide) ?_
                      refine aw_iload dX12_hire_98 rfl ?_
                      refine aw_iload dX12_hire_100 rfl ?_
                      refine aw_iload dX12_hire_102 rfl ?_
                      refine aw_callS2p dX12_hire_104 cmX12_has csX12_199 (Nat.le_of_ble_eq_true rfl) tX12_has ?_
                      refine aw_if_eq (tgt := 120) dX12_hire_107 (by decide) (fun c107 => ?_) (fun c107 => ?_)
                      · refine aw_iconst (v := 0) dX12_hire_120 (by decide) ?_
                        refine aw_iadd dX12_hire_121 ?_
                        refine aw_istore dX12_hire_122 (by decide) ?_
                        refine aw_inc (w := 1) dX12_hire_124 rfl (by decide) (by decide) ?_
                        refine aw_goto (tgt := 63) dX12_hire_127 (by decide) ?_
                        exact aw_loc [0, 1, 2, 3, 4, 5, 6, 7, 8, 9] (ls2 := [(0, .ref m), (1, .int b), (2, .int m'), (3, .int w), (4, .int x), (5, .int y), (6, .int (nI j)), (7, .int _), (8, .int _), (9, .int (nI (j2 + 1)))]) (by first | (rw [nI_succ]; rfl) | rfl) (ih2 (j2 + 1) _ _ (by omega)  (heq2.trans ((if_pos c81).trans (if_pos c107))))
                      · refine aw_aload_n dX12_hire_110 rfl ?_
                        refine aw_iload dX12_hire_111 rfl ?_
                        refine aw_iload_n dX12_hire_113 rfl ?_
                        refine aw_callV2p dX12_hire_114 cmX12_weight cvX12_186 (mo_c0 hM) (Nat.le_of_ble_eq_true rfl) (tX12_weight hM (vp_in_nI (by omega) (by decide))) ?_
                        refine aw_goto (tgt := 121) dX12_hire_117 (by decide) ?_
                        refine aw_iadd dX12_hire_121 ?_
                        refine aw_istore dX12_hire_122 (by decide) ?_
                        refine aw_inc (w := 1) dX12_hire_124 rfl (by decide) (by decide) ?_
                        refine aw_goto (tgt := 63) dX12_hire_127 (by decide) ?_
                        exact aw_loc [0, 1, 2, 3, 4, 5, 6, 7, 8, 9] (ls2 := [(0, .ref m), (1, .int b), (2, .int m'), (3, .int w), (4, .int x), (5, .int y), (6, .int (nI j)), (7, .int _), (8, .int _), (9, .int (nI (j2 + 1)))]) (by first | (rw [nI_succ]; rfl) | rfl) (ih2 (j2 + 1) _ _ (by omega)  (heq2.trans ((if_pos c81).trans (if_neg c107))))
                    · refine aw_aload_n dX12_hire_84 rfl ?_
                      refine aw_get dX12_hire_85 flX12_22 (mo_c0 hM) rfl ?_
                      refine aw_iload dX12_hire_88 rfl ?_
                      refine aw_ialdN dX12_hire_90 (mo_c5 hM) rfl (by omega) (by decide) ?_
                      refine aw_goto (tgt := 95) dX12_hire_91 (by decide) ?_
                      refine aw_iadd dX12_hire_95 ?_
                      refine aw_istore dX12_hire_96 (by decide) ?_
                      refine aw_iload dX12_hire_98 rfl ?_
                      refine aw_iload dX12_hire_100 rfl ?_
                      refine aw_iload dX12_hire_102 rfl ?_
                      refine aw_callS2p dX12_hire_104 cmX12_has csX12_199 (Nat.le_of_ble_eq_true rfl) tX12_has ?_
                      refine aw_if_eq (tgt := 120) dX12_hire_107 (by decide) (fun c107 => ?_) (fun c107 => ?_)
                      · refine aw_iconst (v := 0) dX12_hire_120 (by decide) ?_
                        refine aw_iadd dX12_hire_121 ?_
                        refine aw_istore dX12_hire_122 (by decide) ?_
                        refine aw_inc (w := 1) dX12_hire_124 rfl (by decide) (by decide) ?_
                        refine aw_goto (tgt := 63) dX12_hire_127 (by decide) ?_
                        exact aw_loc [0, 1, 2, 3, 4, 5, 6, 7, 8, 9] (ls2 := [(0, .ref m), (1, .int b), (2, .int m'), (3, .int w), (4, .int x), (5, .int y), (6, .int (nI j)), (7, .int _), (8, .int _), (9, .int (nI (j2 + 1)))]) (by first | (rw [nI_succ]; rfl) | rfl) (ih2 (j2 + 1) _ _ (by omega)  (heq2.trans ((if_neg c81).trans (if_pos c107))))
                      · refine aw_aload_n dX12_hire_110 rfl ?_
                        refine aw_iload dX12_hire_111 rfl ?_
                        refine aw_iload_n dX12_hire_113 rfl ?_
                        refine aw_callV2p dX12_hire_114 cmX12_weight cvX12_186 (mo_c0 hM) (Nat.le_of_ble_eq_true rfl) (tX12_weight hM (vp_in_nI (by omega) (by decide))) ?_
                        refine aw_goto (tgt := 121) dX12_hire_117 (by decide) ?_
                        refine aw_iadd dX12_hire_121 ?_
                        refine aw_istore dX12_hire_122 (by decide) ?_
                        refine aw_inc (w := 1) dX12_hire_124 rfl (by decide) (by decide) ?_
                        refine aw_goto (tgt := 63) dX12_hire_127 (by decide) ?_
                        exact aw_loc [0, 1, 2, 3, 4, 5, 6, 7, 8, 9] (ls2 := [(0, .ref m), (1, .int b), (2, .int m'), (3, .int w), (4, .int x), (5, .int y), (6, .int (nI j)), (7, .int _), (8, .int _), (9, .int (nI (j2 + 1)))]) (by first | (rw [nI_succ]; rfl) | rfl) (ih2 (j2 + 1) _ _ (by omega)  (heq2.trans ((if_neg c81).trans (if_neg c107))))
              exact aw_loc [0, 1, 2, 3, 4, 5, 6, 7, 8, 9] (ls2 := [(0, .ref m), (1, .int b), (2, .int m'), (3, .int w), (4, .int x), (5, .int y), (6, .int (nI j)), (7, .int 0), (8, .int 0), (9, .int (nI 0))]) rfl (key2 ((S0 30 0).toNatClampNeg) 0 0 0 (by first | rfl | omega)  rfl)
        exact aw_loc [0, 1, 2, 3, 4, 5, 6] (ls2 := [(0, .ref m), (1, .int b), (2, .int m'), (3, .int w), (4, .int 0), (5, .int (-1)), (6, .int (nI 0))]) rfl (key ((1 <<< (S0 30 0 &&& 31) : Int32).toNatClampNeg) 0 0 (-1) (by first | rfl | omega)  rfl)
      · refine aw_aload_n dX12_hire_29 rfl ?_
        refine aw_callV0e dX12_hire_30 cmX12_bad cvX12_97 (mo_c0 hM) (Nat.le_of_ble_eq_true rfl) (tX12_bad hM) (fun r n' h' hq => ?_)
        obtain ⟨rfl, rfl, hM, ho⟩ := hq
        have hF := hF.trans ho
        exact aw_iret dX12_hire_33 rfl (mo_fin (((if_neg c7).trans (if_neg c17)).trans (if_pos c26)) hM hF)
theorem le_M {S : sT} {M j : Nat} (h : S 30 0 = nI M) (h6 : M ≤ 6) (hj : j < 2 ^ 31) : S 30 0 ≤ nI j ↔ M ≤ j := by
  rw [h]
  exact nI_leI (by omega) hj
set_option maxHeartbeats 1000000 in
set_option maxRecDepth 100000 in
theorem tX12_setSteps {l : Launch} {E : aw_E} {d n m : Nat} {h0 : ah} {S0 : sT} {L0 : Nat → Int64} (hM : is_mo h0 m S0 L0) {p q n' w' : Int32} {M : Nat} (hmk : S0 30 0 = nI M) (hm6 : M ≤ 6) (hm1 : 1 ≤ M) (hp : vp_in p 6) (hq : vp_in q 6) : am l E mX12_setSteps (d + 3) 0 0 [.ref m, .int p, .int q, .int n', .int w'] n h0 (mo_post n h0 m (((mStep S0 q n' w' M 14 p.toNatClampNeg, mStep S0 q n' w' M, L0) : Int32 × sM))) := by
  refine am_of (by decide +kernel) (Nat.le_of_ble_eq_true rfl) ?_
  have hF : ah_off h0 h0 m 21 := ah_off.rf
  refine aw_iconst (v := 0) dX12_setSteps_0 (by decide) ?_
  refine aw_istore dX12_setSteps_1 (by decide) ?_
  have key1 : ∀ (k1 j1 : Nat) (h : ah) (S : sT), j1 + k1 = 6 → S 30 0 = nI M → is_mo h m S L0 → ah_off h0 h m 21 → mSt1 6 0 S0 = mSt1 k1 j1 S → aw l E mX12_setSteps (aw_Z E (mo_post n h0 m (((mStep S0 q n' w' M 14 p.toNatClampNeg, mStep S0 q n' w' M, L0) : Int32 × sM)))) (d + 3) 0 0 3 [(0, .ref m), (1, .int p), (2, .int q), (3, .int n'), (4, .int w'), (5, .int (nI j1))] [] n h := by
    intro k1
    induction k1 with
    | zero =>
      intro j1 h S hj1 hmk hM hF heq1
      refine aw_iload dX12_setSteps_3 rfl ?_
      refine aw_bipush (v := 6) dX12_setSteps_5 (by decide) ?_
      refine aw_icmp_ge (tgt := 25) dX12_setSteps_7 (by decide) (fun c7 => ?_) (fun c7 => ?_)
      · refine aw_aload_n dX12_setSteps_25 rfl ?_
        refine aw_iload_n dX12_setSteps_26 rfl ?_
        refine aw_iload_n dX12_setSteps_27 rfl ?_
        refine aw_callV2p dX12_setSteps_28 cmX12_weight cvX12_186 (mo_c0 hM) (Nat.le_of_ble_eq_true rfl) (tX12_weight hM hq) ?_
        refine aw_iload dX12_setSteps_31 rfl ?_
        refine aw_icmp_lt (tgt := 43) dX12_setSteps_33 (by decide) (fun c33 => ?_) (fun c33 => ?_)
        · refine aw_iconst (v := 1) dX12_setSteps_43 (by decide) ?_
          refine aw_istore dX12_setSteps_44 (by decide) ?_
          have key2 : ∀ (k2 j2 : Nat) (h : ah) (S : sT), j2 + k2 = M → S 30 0 = nI M → is_mo h m S L0 → ah_off h0 h m 21 → mStep S0 q n' w' M = mStA n' w' M k2 j2 S → aw l E mX12_setSteps (aw_Z E (mo_post n h0 m (((mStep S0 q n' w' M 14 p.toNatClampNeg, mStep S0 q n' w' M, L0) : Int32 × sM)))) (d + 3) 0 0 46 [(0, .ref m), (1, .int p), (3, .int n'), (4, .int w'), (5, .int (nI j2))] [] n h := by
            intro k2
            induction k2 with
            | zero =>
              intro j2 h S hj2 hmk hM hF heq2
              refine aw_iload dX12_setSteps_46 rfl ?_
              refine aw_aload_n dX12_setSteps_48 rfl ?_
              refine aw_get dX12_setSteps_49 flX12_77 (mo_c0 hM) rfl ?_
              refine aw_icmp_ge (tgt := 172) dX12_setSteps_52 (by decide) (fun c52 => ?_) (fun c52 => ?_)
              · refine aw_aload_n dX12_setSteps_172 rfl ?_
                refine aw_get dX12_setSteps_173 flX12_52 (mo_c0 hM) rfl ?_
                refine aw_iload_n dX12_setSteps_176 rfl ?_
                refine aw_iald dX12_setSteps_177 (mo_c15 hM) hp ?_
                exact aw_iret dX12_setSteps_178 rfl (mo_fin (congrArg (fun z : sT => (z 14 p.toNatClampNeg, z, L0)) heq2) hM hF)
              · exact absurd ((le_M hmk hm6 (j := j2) (by omega)).mpr (by omega)) c52
            | succ k2 ih2 =>
              intro j2 h S hj2 hmk hM hF heq2
              refine aw_iload dX12_setSteps_46 rfl ?_
              refine aw_aload_n dX12_setSteps_48 rfl ?_
              refine aw_get dX12_setSteps_49 flX12_77 (mo_c0 hM) rfl ?_
              refine aw_icmp_ge (tgt := 172) dX12_setSteps_52 (by decide) (fun c52 => ?_) (fun c52 => ?_)
              · exact absurd ((le_M hmk hm6 (j := j2) (by omega)).mp c52) (by omega)
              · refine aw_iconst (v := 0) dX12_setSteps_55 (by decide) ?_
                refine aw_istore dX12_setSteps_56 (by decide) ?_
                have key3 : ∀ (k3 j3 : Nat) (h : ah) (S3 : sT), j3 + k3 = M → S3 30 0 = nI M → is_mo h m S3 L0 → ah_off h0 h m 21 → mStB n' w' M M 0 S = mStB n' w' M k3 j3 S3 → aw l E mX12_setSteps (aw_Z E (mo_post n h0 m (((mStep S0 q n' w' M 14 p.toNatClampNeg, mStep S0 q n' w' M, L0) : Int32 × sM)))) (d + 3) 0 0 58 [(0, .ref m), (1, .int p), (3, .int n'), (4, .int w'), (5, .int (nI j2)), (6, .int (nI j3))] [] n h := by
                  intro k3
                  induction k3 with
                  | zero =>
                    intro j3 h S3 hj3 hmk hM hF heq3
                    refine aw_iload dX12_setSteps_58 rfl ?_
                    refine aw_aload_n dX12_setSteps_60 rfl ?_
                    refine aw_get dX12_setSteps_61 flX12_77 (mo_c0 hM) rfl ?_
                    refine aw_icmp_ge (tgt := 166) dX12_setSteps_64 (by decide) (fun c64 => ?_) (fun c64 => ?_)
                    · refine aw_inc (w := 1) dX12_setSteps_166 rfl (by decide) (by decide) ?_
                      refine aw_goto (tgt := 46) dX12_setSteps_169 (by decide) ?_
                      exact aw_loc [0, 1, 3, 4, 5] (ls2 := [(0, .ref m), (1, .int p), (3, .int n'), (4, .int w'), (5, .int (nI (j2 + 1)))]) (by first | (rw [nI_succ]; rfl) | rfl) (ih2 (j2 + 1) _ _ (by omega) (by exact hmk) hM hF (heq2.trans (congrArg (mStA n' w' M k2 (j2 + 1)) heq3)))
                    · exact absurd ((le_M hmk hm6 (j := j3) (by omega)).mpr (by omega)) c64
                  | succ k3 ih3 =>
                    intro j3 h S3 hj3 hmk hM hF heq3
                    refine aw_iload dX12_setSteps_58 rfl ?_
                    refine aw_aload_n dX12_setSteps_60 rfl ?_
                    refine aw_get dX12_setSteps_61 flX12_77 (mo_c0 hM) rfl ?_
                    refine aw_icmp_ge (tgt := 166) dX12_setSteps_64 (by decide) (fun c64 => ?_) (fun c64 => ?_)
                    · exact absurd ((le_M hmk hm6 (j := j3) (by omega)).mp c64) (by omega)
                    · refine aw_iconst (v := 0) dX12_setSteps_67 (by decide) ?_
                      refine aw_istore dX12_setSteps_68 (by decide) ?_
                      have key4 : ∀ (k4 j4 : Nat) (h : ah) (S4 : sT), j4 + k4 = M → S4 30 0 = nI M → is_mo h m S4 L0 → ah_off h0 h m 21 → mStC n' w' j3 M 0 S3 = mStC n' w' j3 k4 j4 S4 → aw l E mX12_setSteps (aw_Z E (mo_post n h0 m (((mStep S0 q n' w' M 14 p.toNatClampNeg, mStep S0 q n' w' M, L0) : Int32 × sM)))) (d + 3) 0 0 70 [(0, .ref m), (1, .int p), (3, .int n'), (4, .int w'), (5, .int (nI j2)), (6, .int (nI j3)), (7, .int (nI j4))] [] n h := by
                        intro k4
                        induction k4 with
                        | zero =>
                          intro j4 h S4 hj4 hmk hM hF heq4
                          refine aw_iload dX12_setSteps_70 rfl ?_
                          refine aw_aload_n dX12_setSteps_72 rfl ?_
                          refine aw_get dX12_setSteps_73 flX12_77 (mo_c0 hM) rfl ?_
                          refine aw_icmp_ge (tgt := 160) dX12_setSteps_76 (by decide) (fun c76 => ?_) (fun c76 => ?_)
                          · refine aw_inc (w := 1) dX12_setSteps_160 rfl (by decide) (by decide) ?_
                            refine aw_goto (tgt := 58) dX12_setSteps_163 (by decide) ?_
                            exact aw_loc [0, 1, 3, 4, 5, 6] (ls2 := [(0, .ref m), (1, .int p), (3, .int n'), (4, .int w'), (5, .int (nI j2)), (6, .int (nI (j3 + 1)))]) (by first | (rw [nI_succ]; rfl) | rfl) (ih3 (j3 + 1) _ _ (by omega) (by exact hmk) hM hF (heq3.trans (congrArg (mStB n' w' M k3 (j3 + 1)) heq4)))
                          · exact absurd ((le_M hmk hm6 (j := j4) (by omega)).mpr (by omega)) c76
                        | succ k4 ih4 =>
                          intro j4 h S4 hj4 hmk hM hF heq4
                          refine aw_iload dX12_setSteps_70 rfl ?_
                          refine aw_aload_n dX12_setSteps_72 rfl ?_
                          refine aw_get dX12_setSteps_73 flX12_77 (mo_c0 hM) rfl ?_
                          refine aw_icmp_ge (tgt := 160) dX12_setSteps_76 (by decide) (fun c76 => ?_) (fun c76 => ?_)
                          · exact absurd ((le_M hmk hm6 (j := j4) (by omega)).mp c76) (by omega)
                          · refine aw_aload_n dX12_setSteps_79 rfl ?_
                            refine aw_get dX12_setSteps_80 flX12_25 (mo_c0 hM) rfl ?_
                            refine aw_iload dX12_setSteps_83 rfl ?_
                            refine aw_ialdN dX12_setSteps_85 (mo_c6 hM) rfl (by omega) (by decide) ?_
                            refine aw_iload dX12_setSteps_86 rfl ?_
                            refine aw_callS2p dX12_setSteps_88 cmX12_has csX12_199 (Nat.le_of_ble_eq_true rfl) tX12_has ?_
                            refine aw_if_eq (tgt := 110) dX12_setSteps_91 (by decide) (fun c91 => ?_) (fun c91 => ?_)
                            · refine aw_iconst (v := 0) dX12_setSteps_110 (by decide) ?_
                              refine aw_istore dX12_setSteps_111 (by decide) ?_
                              refine aw_aload_n dX12_setSteps_113 rfl ?_
                              refine aw_get dX12_setSteps_114 flX12_52 (mo_c0 hM) rfl ?_
                              refine aw_iload dX12_setSteps_117 rfl ?_
                              refine aw_iload dX12_setSteps_119 rfl ?_
                              refine aw_if_eq (tgt := 146) dX12_setSteps_121 (by decide) (fun c121 => ?_) (fun c121 => ?_)
                              · refine aw_aload_n dX12_setSteps_146 rfl ?_
                                refine aw_get dX12_setSteps_147 flX12_52 (mo_c0 hM) rfl ?_
                                refine aw_iload dX12_setSteps_150 rfl ?_
                                refine aw_ialdN dX12_setSteps_152 (mo_c15 hM) rfl (by omega) (by decide) ?_
                                refine aw_iN_mo14 dX12_setSteps_153 hM rfl (by omega) (fun h hM ho => ?_)
                                have hF := hF.trans ho
                                refine aw_inc (w := 1) dX12_setSteps_154 rfl (by decide) (by decide) ?_
                                refine aw_goto (tgt := 70) dX12_setSteps_157 (by decide) ?_
                                exact aw_loc [0, 1, 3, 4, 5, 6, 7] (ls2 := [(0, .ref m), (1, .int p), (3, .int n'), (4, .int w'), (5, .int (nI j2)), (6, .int (nI j3)), (7, .int (nI (j4 + 1)))]) (by first | (rw [nI_succ]; rfl) | rfl) (ih4 (j4 + 1) _ _ (by omega) (by exact hmk) hM hF (heq4.trans (congrArg (mStC n' w' j3 k4 (j4 + 1)) ((if_pos c91).trans (if_pos c121)))))
                              · refine aw_aload_n dX12_setSteps_124 rfl ?_
                                refine aw_get dX12_setSteps_125 flX12_52 (mo_c0 hM) rfl ?_
                                refine aw_iload dX12_setSteps_128 rfl ?_
                                refine aw_ialdN dX12_setSteps_130 (mo_c15 hM) rfl (by omega) (by decide) ?_
                                refine aw_aload_n dX12_setSteps_131 rfl ?_
                                refine aw_get dX12_setSteps_132 flX12_52 (mo_c0 hM) rfl ?_
                                refine aw_iload dX12_setSteps_135 rfl ?_
                                refine aw_ialdN dX12_setSteps_137 (mo_c15 hM) rfl (by omega) (by decide) ?_
                                refine aw_iconst (v := 1) dX12_setSteps_138 (by decide) ?_
                                refine aw_iadd dX12_setSteps_139 ?_
                                refine aw_callS2p dX12_setSteps_140 cmX12_lesser csX12_180 (Nat.le_of_ble_eq_true rfl) tX12_lesser ?_
                                refine aw_goto (tgt := 153) dX12_setSteps_143 (by decide) ?_
                                refine aw_iN_mo14 dX12_setSteps_153 hM rfl (by omega) (fun h hM ho => ?_)
                                have hF := hF.trans ho
                                refine aw_inc (w := 1) dX12_setSteps_154 rfl (by decide) (by decide) ?_
                                refine aw_goto (tgt := 70) dX12_setSteps_157 (by decide) ?_
                                exact aw_loc [0, 1, 3, 4, 5, 6, 7] (ls2 := [(0, .ref m), (1, .int p), (3, .int n'), (4, .int w'), (5, .int (nI j2)), (6, .int (nI j3)), (7, .int (nI (j4 + 1)))]) (by first | (rw [nI_succ]; rfl) | rfl) (ih4 (j4 + 1) _ _ (by omega) (by exact hmk) hM hF (heq4.trans (congrArg (mStC n' w' j3 k4 (j4 + 1)) ((if_pos c91).trans (if_neg c121)))))
                            · refine aw_aload_n dX12_setSteps_94 rfl ?_
                              refine aw_iload dX12_setSteps_95 rfl ?_
                              refine aw_iload_n dX12_setSteps_97 rfl ?_
                              refine aw_callV2p dX12_setSteps_98 cmX12_weight cvX12_186 (mo_c0 hM) (Nat.le_of_ble_eq_true rfl) (tX12_weight hM (vp_in_nI (by omega) (by decide))) ?_
                              refine aw_iload dX12_setSteps_101 rfl ?_
                              refine aw_icmp_lt (tgt := 110) dX12_setSteps_103 (by decide) (fun c103 => ?_) (fun c103 => ?_)
                              · refine aw_iconst (v := 0) dX12_setSteps_110 (by decide) ?_
                                refine aw_istore dX12_setSteps_111 (by decide) ?_
                                refine aw_aload_n dX12_setSteps_113 rfl ?_
                                refine aw_get dX12_setSteps_114 flX12_52 (mo_c0 hM) rfl ?_
                                refine aw_iload dX12_setSteps_117 rfl ?_
                                refine aw_iload dX12_setSteps_119 rfl ?_
                                refine aw_if_eq (tgt := 146) dX12_setSteps_121 (by decide) (fun c121 => ?_) (fun c121 => ?_)
                                · refine aw_aload_n dX12_setSteps_146 rfl ?_
                                  refine aw_get dX12_setSteps_147 flX12_52 (mo_c0 hM) rfl ?_
                                  refine aw_iload dX12_setSteps_150 rfl ?_
                                  refine aw_ialdN dX12_setSteps_152 (mo_c15 hM) rfl (by omega) (by decide) ?_
                                  refine aw_iN_mo14 dX12_setSteps_153 hM rfl (by omega) (fun h hM ho => ?_)
                                  have hF := hF.trans ho
                                  refine aw_inc (w := 1) dX12_setSteps_154 rfl (by decide) (by decide) ?_
                                  refine aw_goto (tgt := 70) dX12_setSteps_157 (by decide) ?_
                                  exact aw_loc [0, 1, 3, 4, 5, 6, 7] (ls2 := [(0, .ref m), (1, .int p), (3, .int n'), (4, .int w'), (5, .int (nI j2)), (6, .int (nI j3)), (7, .int (nI (j4 + 1)))]) (by first | (rw [nI_succ]; rfl) | rfl) (ih4 (j4 + 1) _ _ (by omega) (by exact hmk) hM hF (heq4.trans (congrArg (mStC n' w' j3 k4 (j4 + 1)) (((if_neg c91).trans (if_pos c103)).trans (if_pos c121)))))
                                · refine aw_aload_n dX12_setSteps_124 rfl ?_
                                  refine aw_get dX12_setSteps_125 flX12_52 (mo_c0 hM) rfl ?_
                                  refine aw_iload dX12_setSteps_128 rfl ?_
                                  refine aw_ialdN dX12_setSteps_130 (mo_c15 hM) rfl (by omega) (by decide) ?_
                                  refine aw_aload_n dX12_setSteps_131 rfl ?_
                                  refine aw_get dX12_setSteps_132 flX12_52 (mo_c0 hM) rfl ?_
                                  refine aw_iload dX12_setSteps_135 rfl ?_
                                  refine aw_ialdN dX12_setSteps_137 (mo_c15 hM) rfl (by omega) (by decide) ?_
                                  refine aw_iconst (v := 1) dX12_setSteps_138 (by decide) ?_
                                  refine aw_iadd dX12_setSteps_139 ?_
                                  refine aw_callS2p dX12_setSteps_140 cmX12_lesser csX12_180 (Nat.le_of_ble_eq_true rfl) tX12_lesser ?_
                                  refine aw_goto (tgt := 153) dX12_setSteps_143 (by decide) ?_
                                  refine aw_iN_mo14 dX12_setSteps_153 hM rfl (by omega) (fun h hM ho => ?_)
                                  have hF := hF.trans ho
                                  refine aw_inc (w := 1) dX12_setSteps_154 rfl (by decide) (by decide) ?_
                                  refine aw_goto (tgt := 70) dX12_setSteps_157 (by decide) ?_
                                  exact aw_loc [0, 1, 3, 4, 5, 6, 7] (ls2 := [(0, .ref m), (1, .int p), (3, .int n'), (4, .int w'), (5, .int (nI j2)), (6, .int (nI j3)), (7, .int (nI (j4 + 1)))]) (by first | (rw [nI_succ]; rfl) | rfl) (ih4 (j4 + 1) _ _ (by omega) (by exact hmk) hM hF (heq4.trans (congrArg (mStC n' w' j3 k4 (j4 + 1)) (((if_neg c91).trans (if_pos c103)).trans (if_neg c121)))))
                              · refine aw_iconst (v := 1) dX12_setSteps_106 (by decide) ?_
                                refine aw_goto (tgt := 111) dX12_setSteps_107 (by decide) ?_
                                refine aw_istore dX12_setSteps_111 (by decide) ?_
                                refine aw_aload_n dX12_setSteps_113 rfl ?_
                                refine aw_get dX12_setSteps_114 flX12_52 (mo_c0 hM) rfl ?_
                                refine aw_iload dX12_setSteps_117 rfl ?_
                                refine aw_iload dX12_setSteps_119 rfl ?_
                                refine aw_if_eq (tgt := 146) dX12_setSteps_121 (by decide) (fun c121 => ?_) (fun c121 => ?_)
                                · refine aw_aload_n dX12_setSteps_146 rfl ?_
                                  refine aw_get dX12_setSteps_147 flX12_52 (mo_c0 hM) rfl ?_
                                  refine aw_iload dX12_setSteps_150 rfl ?_
                                  refine aw_ialdN dX12_setSteps_152 (mo_c15 hM) rfl (by omega) (by decide) ?_
                                  refine aw_iN_mo14 dX12_setSteps_153 hM rfl (by omega) (fun h hM ho => ?_)
                                  have hF := hF.trans ho
                                  refine aw_inc (w := 1) dX12_setSteps_154 rfl (by decide) (by decide) ?_
                                  refine aw_goto (tgt := 70) dX12_setSteps_157 (by decide) ?_
                                  exact aw_loc [0, 1, 3, 4, 5, 6, 7] (ls2 := [(0, .ref m), (1, .int p), (3, .int n'), (4, .int w'), (5, .int (nI j2)), (6, .int (nI j3)), (7, .int (nI (j4 + 1)))]) (by first | (rw [nI_succ]; rfl) | rfl) (ih4 (j4 + 1) _ _ (by omega) (by exact hmk) hM hF (heq4.trans (congrArg (mStC n' w' j3 k4 (j4 + 1)) (((if_neg c91).trans (if_neg c103)).trans (if_pos c121)))))
                                · refine aw_aload_n dX12_setSteps_124 rfl ?_
                                  refine aw_get dX12_setSteps_125 flX12_52 (mo_c0 hM) rfl ?_
                                  refine aw_iload dX12_setSteps_128 rfl ?_
                                  refine aw_ialdN dX12_setSteps_130 (mo_c15 hM) rfl (by omega) (by decide) ?_
                                  refine aw_aload_n dX12_setSteps_131 rfl ?_
                                  refine aw_get dX12_setSteps_132 flX12_52 (mo_c0 hM) rfl ?_
                                  refine aw_iload dX12_setSteps_135 rfl ?_
                                  refine aw_ialdN dX12_setSteps_137 (mo_c15 hM) rfl (by omega) (by decide) ?_
                                  refine aw_iconst (v := 1) dX12_setSteps_138 (by decide) ?_
                                  refine aw_iadd dX12_setSteps_139 ?_
                                  refine aw_callS2p dX12_setSteps_140 cmX12_lesser csX12_180 (Nat.le_of_ble_eq_true rfl) tX12_lesser ?_
                                  refine aw_goto (tgt := 153) dX12_setSteps_143 (by decide) ?_
                                  refine aw_iN_mo14 dX12_setSteps_153 hM rfl (by omega) (fun h hM ho => ?_)
                                  have hF := hF.trans ho
                                  refine aw_inc (w := 1) dX12_setSteps_154 rfl (by decide) (by decide) ?_
                                  refine aw_goto (tgt := 70) dX12_setSteps_157 (by decide) ?_
                                  exact aw_loc [0, 1, 3, 4, 5, 6, 7] (ls2 := [(0, .ref m), (1, .int p), (3, .int n'), (4, .int w'), (5, .int (nI j2)), (6, .int (nI j3)), (7, .int (nI (j4 + 1)))]) (by first | (rw [nI_succ]; rfl) | rfl) (ih4 (j4 + 1) _ _ (by omega) (by exact hmk) hM hF (heq4.trans (congrArg (mStC n' w' j3 k4 (j4 + 1)) (((if_neg c91).trans (if_neg c103)).trans (if_neg c121)))))
                      exact aw_loc [0, 1, 3, 4, 5, 6, 7] (ls2 := [(0, .ref m), (1, .int p), (3, .int n'), (4, .int w'), (5, .int (nI j2)), (6, .int (nI j3)), (7, .int (nI 0))]) rfl (key4 (M) 0 _ _ (by first | rfl | omega) (by exact hmk) hM hF rfl)
                exact aw_loc [0, 1, 3, 4, 5, 6] (ls2 := [(0, .ref m), (1, .int p), (3, .int n'), (4, .int w'), (5, .int (nI j2)), (6, .int (nI 0))]) rfl (key3 (M) 0 _ _ (by first | rfl | omega) (by exact hmk) hM hF rfl)
          exact aw_loc [0, 1, 3, 4, 5] (ls2 := [(0, .ref m), (1, .int p), (3, .int n'), (4, .int w'), (5, .int (nI 1))]) rfl (key2 (M - 1) 1 _ _ (by first | rfl | omega) (by exact hmk) hM hF (congrArg (mStA n' w' M (M - 1) 1) ((congrArg (fun z => mSt2 z q n' w') heq1).trans (if_pos c33))))
        · refine aw_aload_n dX12_setSteps_36 rfl ?_
          refine aw_get dX12_setSteps_37 flX12_52 (mo_c0 hM) rfl ?_
          refine aw_iload_n dX12_setSteps_40 rfl ?_
          refine aw_iconst (v := 1) dX12_setSteps_41 (by decide) ?_
          refine aw_ia_mo14 dX12_setSteps_42 hM hq (fun h hM ho => ?_)
          have hF := hF.trans ho
          refine aw_iconst (v := 1) dX12_setSteps_43 (by decide) ?_
          refine aw_istore dX12_setSteps_44 (by decide) ?_
          have key2 : ∀ (k2 j2 : Nat) (h : ah) (S : sT), j2 + k2 = M → S 30 0 = nI M → is_mo h m S L0 → ah_off h0 h m 21 → mStep S0 q n' w' M = mStA n' w' M k2 j2 S → aw l E mX12_setSteps (aw_Z E (mo_post n h0 m (((mStep S0 q n' w' M 14 p.toNatClampNeg, mStep S0 q n' w' M, L0) : Int32 × sM)))) (d + 3) 0 0 46 [(0, .ref m), (1, .int p), (3, .int n'), (4, .int w'), (5, .int (nI j2))] [] n h := by
            intro k2
            induction k2 with
            | zero =>
              intro j2 h S hj2 hmk hM hF heq2
              refine aw_iload dX12_setSteps_46 rfl ?_
              refine aw_aload_n dX12_setSteps_48 rfl ?_
              refine aw_get dX12_setSteps_49 flX12_77 (mo_c0 hM) rfl ?_
              refine aw_icmp_ge (tgt := 172) dX12_setSteps_52 (by decide) (fun c52 => ?_) (fun c52 => ?_)
              · refine aw_aload_n dX12_setSteps_172 rfl ?_
                refine aw_get dX12_setSteps_173 flX12_52 (mo_c0 hM) rfl ?_
                refine aw_iload_n dX12_setSteps_176 rfl ?_
                refine aw_iald dX12_setSteps_177 (mo_c15 hM) hp ?_
                exact aw_iret dX12_setSteps_178 rfl (mo_fin (congrArg (fun z : sT => (z 14 p.toNatClampNeg, z, L0)) heq2) hM hF)
              · exact absurd ((le_M hmk hm6 (j := j2) (by omega)).mpr (by omega)) c52
            | succ k2 ih2 =>
              intro j2 h S hj2 hmk hM hF heq2
              refine aw_iload dX12_setSteps_46 rfl ?_
              refine aw_aload_n dX12_setSteps_48 rfl ?_
              refine aw_get dX12_setSteps_49 flX12_77 (mo_c0 hM) rfl ?_
              refine aw_icmp_ge (tgt := 172) dX12_setSteps_52 (by decide) (fun c52 => ?_) (fun c52 => ?_)
              · exact absurd ((le_M hmk hm6 (j := j2) (by omega)).mp c52) (by omega)
              · refine aw_iconst (v := 0) dX12_setSteps_55 (by decide) ?_
                refine aw_istore dX12_setSteps_56 (by decide) ?_
                have key3 : ∀ (k3 j3 : Nat) (h : ah) (S3 : sT), j3 + k3 = M → S3 30 0 = nI M → is_mo h m S3 L0 → ah_off h0 h m 21 → mStB n' w' M M 0 S = mStB n' w' M k3 j3 S3 → aw l E mX12_setSteps (aw_Z E (mo_post n h0 m (((mStep S0 q n' w' M 14 p.toNatClampNeg, mStep S0 q n' w' M, L0) : Int32 × sM)))) (d + 3) 0 0 58 [(0, .ref m), (1, .int p), (3, .int n'), (4, .int w'), (5, .int (nI j2)), (6, .int (nI j3))] [] n h := by
                  intro k3
                  induction k3 with
                  | zero =>
                    intro j3 h S3 hj3 hmk hM hF heq3
                    refine aw_iload dX12_setSteps_58 rfl ?_
                    refine aw_aload_n dX12_setSteps_60 rfl ?_
                    refine aw_get dX12_setSteps_61 flX12_77 (mo_c0 hM) rfl ?_
                    refine aw_icmp_ge (tgt := 166) dX12_setSteps_64 (by decide) (fun c64 => ?_) (fun c64 => ?_)
                    · refine aw_inc (w := 1) dX12_setSteps_166 rfl (by decide) (by decide) ?_
                      refine aw_goto (tgt := 46) dX12_setSteps_169 (by decide) ?_
                      exact aw_loc [0, 1, 3, 4, 5] (ls2 := [(0, .ref m), (1, .int p), (3, .int n'), (4, .int w'), (5, .int (nI (j2 + 1)))]) (by first | (rw [nI_succ]; rfl) | rfl) (ih2 (j2 + 1) _ _ (by omega) (by exact hmk) hM hF (heq2.trans (congrArg (mStA n' w' M k2 (j2 + 1)) heq3)))
                    · exact absurd ((le_M hmk hm6 (j := j3) (by omega)).mpr (by omega)) c64
                  | succ k3 ih3 =>
                    intro j3 h S3 hj3 hmk hM hF heq3
                    refine aw_iload dX12_setSteps_58 rfl ?_
                    refine aw_aload_n dX12_setSteps_60 rfl ?_
                    refine aw_get dX12_setSteps_61 flX12_77 (mo_c0 hM) rfl ?_
                    refine aw_icmp_ge (tgt := 166) dX12_setSteps_64 (by decide) (fun c64 => ?_) (fun c64 => ?_)
                    · exact absurd ((le_M hmk hm6 (j := j3) (by omega)).mp c64) (by omega)
                    · refine aw_iconst (v := 0) dX12_setSteps_67 (by decide) ?_
                      refine aw_istore dX12_setSteps_68 (by decide) ?_
                      have key4 : ∀ (k4 j4 : Nat) (h : ah) (S4 : sT), j4 + k4 = M → S4 30 0 = nI M → is_mo h m S4 L0 → ah_off h0 h m 21 → mStC n' w' j3 M 0 S3 = mStC n' w' j3 k4 j4 S4 → aw l E mX12_setSteps (aw_Z E (mo_post n h0 m (((mStep S0 q n' w' M 14 p.toNatClampNeg, mStep S0 q n' w' M, L0) : Int32 × sM)))) (d + 3) 0 0 70 [(0, .ref m), (1, .int p), (3, .int n'), (4, .int w'), (5, .int (nI j2)), (6, .int (nI j3)), (7, .int (nI j4))] [] n h := by
                        intro k4
                        induction k4 with
                        | zero =>
                          intro j4 h S4 hj4 hmk hM hF heq4
                          refine aw_iload dX12_setSteps_70 rfl ?_
                          refine aw_aload_n dX12_setSteps_72 rfl ?_
                          refine aw_get dX12_setSteps_73 flX12_77 (mo_c0 hM) rfl ?_
                          refine aw_icmp_ge (tgt := 160) dX12_setSteps_76 (by decide) (fun c76 => ?_) (fun c76 => ?_)
                          · refine aw_inc (w := 1) dX12_setSteps_160 rfl (by decide) (by decide) ?_
                            refine aw_goto (tgt := 58) dX12_setSteps_163 (by decide) ?_
                            exact aw_loc [0, 1, 3, 4, 5, 6] (ls2 := [(0, .ref m), (1, .int p), (3, .int n'), (4, .int w'), (5, .int (nI j2)), (6, .int (nI (j3 + 1)))]) (by first | (rw [nI_succ]; rfl) | rfl) (ih3 (j3 + 1) _ _ (by omega) (by exact hmk) hM hF (heq3.trans (congrArg (mStB n' w' M k3 (j3 + 1)) heq4)))
                          · exact absurd ((le_M hmk hm6 (j := j4) (by omega)).mpr (by omega)) c76
                        | succ k4 ih4 =>
                          intro j4 h S4 hj4 hmk hM hF heq4
                          refine aw_iload dX12_setSteps_70 rfl ?_
                          refine aw_aload_n dX12_setSteps_72 rfl ?_
                          refine aw_get dX12_setSteps_73 flX12_77 (mo_c0 hM) rfl ?_
                          refine aw_icmp_ge (tgt := 160) dX12_setSteps_76 (by decide) (fun c76 => ?_) (fun c76 => ?_)
                          · exact absurd ((le_M hmk hm6 (j := j4) (by omega)).mp c76) (by omega)
                          · refine aw_aload_n dX12_setSteps_79 rfl ?_
                            refine aw_get dX12_setSteps_80 flX12_25 (mo_c0 hM) rfl ?_
                            refine aw_iload dX12_setSteps_83 rfl ?_
                            refine aw_ialdN dX12_setSteps_85 (mo_c6 hM) rfl (by omega) (by decide) ?_
                            refine aw_iload dX12_setSteps_86 rfl ?_
                            refine aw_callS2p dX12_setSteps_88 cmX12_has csX12_199 (Nat.le_of_ble_eq_true rfl) tX12_has ?_
                            refine aw_if_eq (tgt := 110) dX12_setSteps_91 (by decide) (fun c91 => ?_) (fun c91 => ?_)
                            · refine aw_iconst (v := 0) dX12_setSteps_110 (by decide) ?_
                              refine aw_istore dX12_setSteps_111 (by decide) ?_
                              refine aw_aload_n dX12_setSteps_113 rfl ?_
                              refine aw_get dX12_setSteps_114 flX12_52 (mo_c0 hM) rfl ?_
                              refine aw_iload dX12_setSteps_117 rfl ?_
                              refine aw_iload dX12_setSteps_119 rfl ?_
                              refine aw_if_eq (tgt := 146) dX12_setSteps_121 (by decide) (fun c121 => ?_) (fun c121 => ?_)
                              · refine aw_aload_n dX12_setSteps_146 rfl ?_
                                refine aw_get dX12_setSteps_147 flX12_52 (mo_c0 hM) rfl ?_
                                refine aw_iload dX12_setSteps_150 rfl ?_
                                refine aw_ialdN dX12_setSteps_152 (mo_c15 hM) rfl (by omega) (by decide) ?_
                                refine aw_iN_mo14 dX12_setSteps_153 hM rfl (by omega) (fun h hM ho => ?_)
                                have hF := hF.trans ho
                                refine aw_inc (w := 1) dX12_setSteps_154 rfl (by decide) (by decide) ?_
                                refine aw_goto (tgt := 70) dX12_setSteps_157 (by decide) ?_
                                exact aw_loc [0, 1, 3, 4, 5, 6, 7] (ls2 := [(0, .ref m), (1, .int p), (3, .int n'), (4, .int w'), (5, .int (nI j2)), (6, .int (nI j3)), (7, .int (nI (j4 + 1)))]) (by first | (rw [nI_succ]; rfl) | rfl) (ih4 (j4 + 1) _ _ (by omega) (by exact hmk) hM hF (heq4.trans (congrArg (mStC n' w' j3 k4 (j4 + 1)) ((if_pos c91).trans (if_pos c121)))))
                              · refine aw_aload_n dX12_setSteps_124 rfl ?_
                                refine aw_get dX12_setSteps_125 flX12_52 (mo_c0 hM) rfl ?_
                                refine aw_iload dX12_setSteps_128 rfl ?_
                                refine aw_ialdN dX12_setSteps_130 (mo_c15 hM) rfl (by omega) (by decide) ?_
                                refine aw_aload_n dX12_setSteps_131 rfl ?_
                                refine aw_get dX12_setSteps_132 flX12_52 (mo_c0 hM) rfl ?_
                                refine aw_iload dX12_setSteps_135 rfl ?_
                                refine aw_ialdN dX12_setSteps_137 (mo_c15 hM) rfl (by omega) (by decide) ?_
                                refine aw_iconst (v := 1) dX12_setSteps_138 (by decide) ?_
                                refine aw_iadd dX12_setSteps_139 ?_
                                refine aw_callS2p dX12_setSteps_140 cmX12_lesser csX12_180 (Nat.le_of_ble_eq_true rfl) tX12_lesser ?_
                                refine aw_goto (tgt := 153) dX12_setSteps_143 (by decide) ?_
                                refine aw_iN_mo14 dX12_setSteps_153 hM rfl (by omega) (fun h hM ho => ?_)
                                have hF := hF.trans ho
                                refine aw_inc (w := 1) dX12_setSteps_154 rfl (by decide) (by decide) ?_
                                refine aw_goto (tgt := 70) dX12_setSteps_157 (by decide) ?_
                                exact aw_loc [0, 1, 3, 4, 5, 6, 7] (ls2 := [(0, .ref m), (1, .int p), (3, .int n'), (4, .int w'), (5, .int (nI j2)), (6, .int (nI j3)), (7, .int (nI (j4 + 1)))]) (by first | (rw [nI_succ]; rfl) | rfl) (ih4 (j4 + 1) _ _ (by omega) (by exact hmk) hM hF (heq4.trans (congrArg (mStC n' w' j3 k4 (j4 + 1)) ((if_pos c91).trans (if_neg c121)))))
                            · refine aw_aload_n dX12_setSteps_94 rfl ?_
                              refine aw_iload dX12_setSteps_95 rfl ?_
                              refine aw_iload_n dX12_setSteps_97 rfl ?_
                              refine aw_callV2p dX12_setSteps_98 cmX12_weight cvX12_186 (mo_c0 hM) (Nat.le_of_ble_eq_true rfl) (tX12_weight hM (vp_in_nI (by omega) (by decide))) ?_
                              refine aw_iload dX12_setSteps_101 rfl ?_
                              refine aw_icmp_lt (tgt := 110) dX12_setSteps_103 (by decide) (fun c103 => ?_) (fun c103 => ?_)
                              · refine aw_iconst (v := 0) dX12_setSteps_110 (by decide) ?_
                                refine aw_istore dX12_setSteps_111 (by decide) ?_
                                refine aw_aload_n dX12_setSteps_113 rfl ?_
                                refine aw_get dX12_setSteps_114 flX12_52 (mo_c0 hM) rfl ?_
                                refine aw_iload dX12_setSteps_117 rfl ?_
                                refine aw_iload dX12_setSteps_119 rfl ?_
                                refine aw_if_eq (tgt := 146) dX12_setSteps_121 (by decide) (fun c121 => ?_) (fun c121 => ?_)
                                · refine aw_aload_n dX12_setSteps_146 rfl ?_
                                  refine aw_get dX12_setSteps_147 flX12_52 (mo_c0 hM) rfl ?_
                                  refine aw_iload dX12_setSteps_150 rfl ?_
                                  refine aw_ialdN dX12_setSteps_152 (mo_c15 hM) rfl (by omega) (by decide) ?_
                                  refine aw_iN_mo14 dX12_setSteps_153 hM rfl (by omega) (fun h hM ho => ?_)
                                  have hF := hF.trans ho
                                  refine aw_inc (w := 1) dX12_setSteps_154 rfl (by decide) (by decide) ?_
                                  refine aw_goto (tgt := 70) dX12_setSteps_157 (by decide) ?_
                                  exact aw_loc [0, 1, 3, 4, 5, 6, 7] (ls2 := [(0, .ref m), (1, .int p), (3, .int n'), (4, .int w'), (5, .int (nI j2)), (6, .int (nI j3)), (7, .int (nI (j4 + 1)))]) (by first | (rw [nI_succ]; rfl) | rfl) (ih4 (j4 + 1) _ _ (by omega) (by exact hmk) hM hF (heq4.trans (congrArg (mStC n' w' j3 k4 (j4 + 1)) (((if_neg c91).trans (if_pos c103)).trans (if_pos c121)))))
                                · refine aw_aload_n dX12_setSteps_124 rfl ?_
                                  refine aw_get dX12_setSteps_125 flX12_52 (mo_c0 hM) rfl ?_
                                  refine aw_iload dX12_setSteps_128 rfl ?_
                                  refine aw_ialdN dX12_setSteps_130 (mo_c15 hM) rfl (by omega) (by decide) ?_
                                  refine aw_aload_n dX12_setSteps_131 rfl ?_
                                  refine aw_get dX12_setSteps_132 flX12_52 (mo_c0 hM) rfl ?_
                                  refine aw_iload dX12_setSteps_135 rfl ?_
                                  refine aw_ialdN dX12_setSteps_137 (mo_c15 hM) rfl (by omega) (by decide) ?_
                                  refine aw_iconst (v := 1) dX12_setSteps_138 (by decide) ?_
                                  refine aw_iadd dX12_setSteps_139 ?_
                                  refine aw_callS2p dX12_setSteps_140 cmX12_lesser csX12_180 (Nat.le_of_ble_eq_true rfl) tX12_lesser ?_
                                  refine aw_goto (tgt := 153) dX12_setSteps_143 (by decide) ?_
                                  refine aw_iN_mo14 dX12_setSteps_153 hM rfl (by omega) (fun h hM ho => ?_)
                                  have hF := hF.trans ho
                                  refine aw_inc (w := 1) dX12_setSteps_154 rfl (by decide) (by decide) ?_
                                  refine aw_goto (tgt := 70) dX12_setSteps_157 (by decide) ?_
                                  exact aw_loc [0, 1, 3, 4, 5, 6, 7] (ls2 := [(0, .ref m), (1, .int p), (3, .int n'), (4, .int w'), (5, .int (nI j2)), (6, .int (nI j3)), (7, .int (nI (j4 + 1)))]) (by first | (rw [nI_succ]; rfl) | rfl) (ih4 (j4 + 1) _ _ (by omega) (by exact hmk) hM hF (heq4.trans (congrArg (mStC n' w' j3 k4 (j4 + 1)) (((if_neg c91).trans (if_pos c103)).trans (if_neg c121)))))
                              · refine aw_iconst (v := 1) dX12_setSteps_106 (by decide) ?_
                                refine aw_goto (tgt := 111) dX12_setSteps_107 (by decide) ?_
                                refine aw_istore dX12_setSteps_111 (by decide) ?_
                                refine aw_aload_n dX12_setSteps_113 rfl ?_
                                refine aw_get dX12_setSteps_114 flX12_52 (mo_c0 hM) rfl ?_
                                refine aw_iload dX12_setSteps_117 rfl ?_
                                refine aw_iload dX12_setSteps_119 rfl ?_
                                refine aw_if_eq (tgt := 146) dX12_setSteps_121 (by decide) (fun c121 => ?_) (fun c121 => ?_)
                                · refine aw_aload_n dX12_setSteps_146 rfl ?_
                                  refine aw_get dX12_setSteps_147 flX12_52 (mo_c0 hM) rfl ?_
                                  refine aw_iload dX12_setSteps_150 rfl ?_
                                  refine aw_ialdN dX12_setSteps_152 (mo_c15 hM) rfl (by omega) (by decide) ?_
                                  refine aw_iN_mo14 dX12_setSteps_153 hM rfl (by omega) (fun h hM ho => ?_)
                                  have hF := hF.trans ho
                                  refine aw_inc (w := 1) dX12_setSteps_154 rfl (by decide) (by decide) ?_
                                  refine aw_goto (tgt := 70) dX12_setSteps_157 (by decide) ?_
                                  exact aw_loc [0, 1, 3, 4, 5, 6, 7] (ls2 := [(0, .ref m), (1, .int p), (3, .int n'), (4, .int w'), (5, .int (nI j2)), (6, .int (nI j3)), (7, .int (nI (j4 + 1)))]) (by first | (rw [nI_succ]; rfl) | rfl) (ih4 (j4 + 1) _ _ (by omega) (by exact hmk) hM hF (heq4.trans (congrArg (mStC n' w' j3 k4 (j4 + 1)) (((if_neg c91).trans (if_neg c103)).trans (if_pos c121)))))
                                · refine aw_aload_n dX12_setSteps_124 rfl ?_
                                  refine aw_get dX12_setSteps_125 flX12_52 (mo_c0 hM) rfl ?_
                                  refine aw_iload dX12_setSteps_128 rfl ?_
                                  refine aw_ialdN dX12_setSteps_130 (mo_c15 hM) rfl (by omega) (by decide) ?_
                                  refine aw_aload_n dX12_setSteps_131 rfl ?_
                                  refine aw_get dX12_setSteps_132 flX12_52 (mo_c0 hM) rfl ?_
                                  refine aw_iload dX12_setSteps_135 rfl ?_
                                  refine aw_ialdN dX12_setSteps_137 (mo_c15 hM) rfl (by omega) (by decide) ?_
                                  refine aw_iconst (v := 1) dX12_setSteps_138 (by decide) ?_
                                  refine aw_iadd dX12_setSteps_139 ?_
                                  refine aw_callS2p dX12_setSteps_140 cmX12_lesser csX12_180 (Nat.le_of_ble_eq_true rfl) tX12_lesser ?_
                                  refine aw_goto (tgt := 153) dX12_setSteps_143 (by decide) ?_
                                  refine aw_iN_mo14 dX12_setSteps_153 hM rfl (by omega) (fun h hM ho => ?_)
                                  have hF := hF.trans ho
                                  refine aw_inc (w := 1) dX12_setSteps_154 rfl (by decide) (by decide) ?_
                                  refine aw_goto (tgt := 70) dX12_setSteps_157 (by decide) ?_
                                  exact aw_loc [0, 1, 3, 4, 5, 6, 7] (ls2 := [(0, .ref m), (1, .int p), (3, .int n'), (4, .int w'), (5, .int (nI j2)), (6, .int (nI j3)), (7, .int (nI (j4 + 1)))]) (by first | (rw [nI_succ]; rfl) | rfl) (ih4 (j4 + 1) _ _ (by omega) (by exact hmk) hM hF (heq4.trans (congrArg (mStC n' w' j3 k4 (j4 + 1)) (((if_neg c91).trans (if_neg c103)).trans (if_neg c121)))))
                      exact aw_loc [0, 1, 3, 4, 5, 6, 7] (ls2 := [(0, .ref m), (1, .int p), (3, .int n'), (4, .int w'), (5, .int (nI j2)), (6, .int (nI j3)), (7, .int (nI 0))]) rfl (key4 (M) 0 _ _ (by first | rfl | omega) (by exact hmk) hM hF rfl)
                exact aw_loc [0, 1, 3, 4, 5, 6] (ls2 := [(0, .ref m), (1, .int p), (3, .int n'), (4, .int w'), (5, .int (nI j2)), (6, .int (nI 0))]) rfl (key3 (M) 0 _ _ (by first | rfl | omega) (by exact hmk) hM hF rfl)
          exact aw_loc [0, 1, 3, 4, 5] (ls2 := [(0, .ref m), (1, .int p), (3, .int n'), (4, .int w'), (5, .int (nI 1))]) rfl (key2 (M - 1) 1 _ _ (by first | rfl | omega) (by exact hmk) hM hF (congrArg (mStA n' w' M (M - 1) 1) ((congrArg (fun z => mSt2 z q n' w') heq1).trans (if_neg c33))))
      · exact absurd ((nI_leI (a := 6) (b := j1) (by omega) (by omega)).mpr (by omega)) c7
    | succ k1 ih1 =>
      intro j1 h S hj1 hmk hM hF heq1
      refine aw_iload dX12_setSteps_3 rfl ?_
      refine aw_bipush (v := 6) dX12_setSteps_5 (by decide) ?_
      refine aw_icmp_ge (tgt := 25) dX12_setSteps_7 (by decide) (fun c7 => ?_) (fun c7 => ?_)
      · exact absurd ((nI_leI (a := 6) (b := j1) (by omega) (by omega)).mp c7) (by omega)
      · refine aw_aload_n dX12_setSteps_10 rfl ?_
        refine aw_get dX12_setSteps_11 flX12_52 (mo_c0 hM) rfl ?_
        refine aw_iload dX12_setSteps_14 rfl ?_
        refine aw_ldc dX12_setSteps_16 kcX12_218 ?_
        refine aw_iN_mo14 dX12_setSteps_18 hM rfl (by omega) (fun h hM ho => ?_)
        have hF := hF.trans ho
        refine aw_inc (w := 1) dX12_setSteps_19 rfl (by decide) (by decide) ?_
        refine aw_goto (tgt := 3) dX12_setSteps_22 (by decide) ?_
        exact aw_loc [0, 1, 2, 3, 4, 5] (ls2 := [(0, .ref m), (1, .int p), (2, .int q), (3, .int n'), (4, .int w'), (5, .int (nI (j1 + 1)))]) (by first | (rw [nI_succ]; rfl) | rfl) (ih1 (j1 + 1) _ _ (by omega) (by exact hmk) hM hF heq1)
  exact aw_loc [0, 1, 2, 3, 4, 5] (ls2 := [(0, .ref m), (1, .int p), (2, .int q), (3, .int n'), (4, .int w'), (5, .int (nI 0))]) rfl (key1 (6) 0 _ _ (by first | rfl | omega) (by exact hmk) hM hF rfl)
