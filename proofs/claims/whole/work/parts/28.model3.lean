/-! THE REFERENCE, third part. -/
set_option maxHeartbeats 1000000 in
set_option maxRecDepth 100000 in
theorem tX12_bag {l : Launch} {E : aw_E} {d n m : Nat} {h0 : ah} {S0 : sT} {L0 : Nat → Int64} (hM : is_mo h0 m S0 L0) {p q e i : Int32} {M : Nat} (hm : S0 30 0 = nI M) (hm6 : M ≤ 6) (hsz : ¬ mIs S0 p = 0 → ¬ mIs S0 q = 0 → ¬ p = q → ¬ iW e 0 99 = 0 → ¬ (mBgB S0 p q e M).2 = -1 → (mStep (mBgB S0 p q e M).1 q e (mBgB S0 p q e M).2 M 14 p.toNatClampNeg).toNatClampNeg ≤ 6) : am l E mX12_bag (d + 4) 0 0 [.ref m, .int p, .int q, .int e, .int i] n h0 (mo_post n h0 m (mBag S0 L0 M p q e i)) := by
  refine am_of (by decide +kernel) (Nat.le_of_ble_eq_true rfl) ?_
  have hF : ah_off h0 h0 m 21 := ah_off.rf
  refine aw_aload_n dX12_bag_0 rfl ?_
  refine aw_iload_n dX12_bag_1 rfl ?_
  refine aw_callV1p dX12_bag_2 cmX12_isOne cvX12_108 (mo_c0 hM) (Nat.le_of_ble_eq_true rfl) (tX12_isOne hM) ?_
  refine aw_if_eq (tgt := 37) dX12_bag_5 (by decide) (fun c5 => ?_) (fun c5 => ?_)
  · refine aw_aload_n dX12_bag_37 rfl ?_
    refine aw_callV0e dX12_bag_38 cmX12_ten cvX12_219 (mo_c0 hM) (Nat.le_of_ble_eq_true rfl) (tX12_ten hM) (fun r n' h' hq => ?_)
    obtain ⟨rfl, rfl, hM, ho⟩ := hq
    have hF := hF.trans ho
    exact aw_iret dX12_bag_41 rfl (mo_fin (if_pos c5) hM hF)
  · refine aw_aload_n dX12_bag_8 rfl ?_
    refine aw_iload_n dX12_bag_9 rfl ?_
    refine aw_callV1p dX12_bag_10 cmX12_isOne cvX12_108 (mo_c0 hM) (Nat.le_of_ble_eq_true rfl) (tX12_isOne hM) ?_
    refine aw_if_eq (tgt := 37) dX12_bag_13 (by decide) (fun c13 => ?_) (fun c13 => ?_)
    · refine aw_aload_n dX12_bag_37 rfl ?_
      refine aw_callV0e dX12_bag_38 cmX12_ten cvX12_219 (mo_c0 hM) (Nat.le_of_ble_eq_true rfl) (tX12_ten hM) (fun r n' h' hq => ?_)
      obtain ⟨rfl, rfl, hM, ho⟩ := hq
      have hF := hF.trans ho
      exact aw_iret dX12_bag_41 rfl (mo_fin ((if_neg c5).trans (if_pos c13)) hM hF)
    · refine aw_iload_n dX12_bag_16 rfl ?_
      refine aw_iload_n dX12_bag_17 rfl ?_
      refine aw_icmp_eq (tgt := 37) dX12_bag_18 (by decide) (fun c18 => ?_) (fun c18 => ?_)
      · refine aw_aload_n dX12_bag_37 rfl ?_
        refine aw_callV0e dX12_bag_38 cmX12_ten cvX12_219 (mo_c0 hM) (Nat.le_of_ble_eq_true rfl) (tX12_ten hM) (fun r n' h' hq => ?_)
        obtain ⟨rfl, rfl, hM, ho⟩ := hq
        have hF := hF.trans ho
        exact aw_iret dX12_bag_41 rfl (mo_fin (((if_neg c5).trans (if_neg c13)).trans (if_pos c18)) hM hF)
      · refine aw_iload_n dX12_bag_21 rfl ?_
        refine aw_iconst (v := 0) dX12_bag_22 (by decide) ?_
        refine aw_bipush (v := 99) dX12_bag_23 (by decide) ?_
        refine aw_callS3p dX12_bag_25 cmX12_in csX12_93 (Nat.le_of_ble_eq_true rfl) tX12_in ?_
        refine aw_if_eq (tgt := 37) dX12_bag_28 (by decide) (fun c28 => ?_) (fun c28 => ?_)
        · refine aw_aload_n dX12_bag_37 rfl ?_
          refine aw_callV0e dX12_bag_38 cmX12_ten cvX12_219 (mo_c0 hM) (Nat.le_of_ble_eq_true rfl) (tX12_ten hM) (fun r n' h' hq => ?_)
          obtain ⟨rfl, rfl, hM, ho⟩ := hq
          have hF := hF.trans ho
          exact aw_iret dX12_bag_41 rfl (mo_fin ((((if_neg c5).trans (if_neg c13)).trans (if_neg c18)).trans (if_pos c28)) hM hF)
        · refine aw_iload dX12_bag_31 rfl ?_
          refine aw_iconst (v := -1) dX12_bag_33 (by decide) ?_
          refine aw_icmp_ge (tgt := 42) dX12_bag_34 (by decide) (fun c34 => ?_) (fun c34 => ?_)
          · refine aw_iconst (v := -1) dX12_bag_42 (by decide) ?_
            refine aw_istore dX12_bag_43 (by decide) ?_
            refine aw_iconst (v := 0) dX12_bag_45 (by decide) ?_
            refine aw_istore dX12_bag_46 (by decide) ?_
            have key1 : ∀ (k1 j1 : Nat) (h : ah) (S : sT) (x : Int32), j1 + k1 = M → S 30 0 = nI M → is_mo h m S L0 → ah_off h0 h m 21 → mBgB S0 p q e M = mBgL p q e M k1 j1 S x → aw l E mX12_bag (aw_Z E (mo_post n h0 m (mBag S0 L0 M p q e i))) (d + 4) 0 0 48 [(0, .ref m), (1, .int p), (2, .int q), (3, .int e), (4, .int i), (5, .int x), (6, .int (nI j1))] [] n h := by
              intro k1
              induction k1 with
              | zero =>
                intro j1 h S x hj1 hmk hM hF heq1
                refine aw_iload dX12_bag_48 rfl ?_
                refine aw_aload_n dX12_bag_50 rfl ?_
                refine aw_get dX12_bag_51 flX12_77 (mo_c0 hM) rfl ?_
                refine aw_icmp_ge (tgt := 104) dX12_bag_54 (by decide) (fun c54 => ?_) (fun c54 => ?_)
                · refine aw_iload dX12_bag_104 rfl ?_
                  refine aw_iconst (v := -1) dX12_bag_106 (by decide) ?_
                  refine aw_icmp_eq (tgt := 116) dX12_bag_107 (by decide) (fun c107 => ?_) (fun c107 => ?_)
                  · refine aw_iload dX12_bag_116 rfl ?_
                    exact aw_iret dX12_bag_118 rfl (mo_fin ((if_neg c5).trans ((if_neg c13).trans ((if_neg c18).trans ((if_neg c28).trans ((if_pos c34).trans ((congrArg (fun z : sT × Int32 => mBgY L0 z M p q e i) (show mBgB S0 p q e M = (S, x) from heq1)).trans (if_pos c107))))))) hM hF)
                  · refine aw_iload dX12_bag_110 rfl ?_
                    refine aw_iconst (v := -1) dX12_bag_112 (by decide) ?_
                    refine aw_icmp_ne (tgt := 119) dX12_bag_113 (by decide) (fun c113 => ?_) (fun c113 => ?_)
                    · refine aw_aload_n dX12_bag_119 rfl ?_
                      refine aw_iload_n dX12_bag_120 rfl ?_
                      refine aw_iload_n dX12_bag_121 rfl ?_
                      refine aw_iload_n dX12_bag_122 rfl ?_
                      refine aw_iload dX12_bag_123 rfl ?_
                      refine aw_callV4e dX12_bag_125 cmX12_setSteps cvX12_222 (mo_c0 hM) (Nat.le_of_ble_eq_true rfl) (tX12_setSteps hM (by exact hmk) hm6 (mIs_m1 c5 hm) (mIs_in c5 hm hm6) (mIs_in c13 hm hm6)) (fun r n' h' hq => ?_)
                      obtain ⟨rfl, rfl, hM, ho⟩ := hq
                      have hF := hF.trans ho
                      have hmk := mStep_hk hM hmk
                      refine aw_istore dX12_bag_128 (by decide) ?_
                      refine aw_iload_n dX12_bag_130 rfl ?_
                      refine aw_istore dX12_bag_131 (by decide) ?_
                      refine aw_iconst (v := 0) dX12_bag_133 (by decide) ?_
                      refine aw_istore dX12_bag_134 (by decide) ?_
                      have hs6 : (mStep S q e x M 14 p.toNatClampNeg).toNatClampNeg ≤ 6 := by
                        have h1 := hsz c5 c13 c18 c28 (by rw [show mBgB S0 p q e M = (S, x) from heq1]; exact c107)
                        rw [show mBgB S0 p q e M = (S, x) from heq1] at h1
                        exact h1
                      have key2 : ∀ (k2 j2 : Nat) (h : ah) (S2 : sT) (a : Int32), j2 + k2 = (mStep S q e x M 14 p.toNatClampNeg).toNatClampNeg → vp_in a 6 → S2 30 0 = nI M → is_mo h m S2 L0 → ah_off h0 h m 21 → mBgW M (mStep S q e x M 14 p.toNatClampNeg).toNatClampNeg 0 (mStep S q e x M) p = mBgW M k2 j2 S2 a → aw l E mX12_bag (aw_Z E (mo_post n h0 m (mBag S0 L0 M p q e i))) (d + 4) 0 0 136 [(0, .ref m), (4, .int i), (6, .int (mStep S q e x M 14 p.toNatClampNeg)), (7, .int a), (8, .int (nI j2))] [] n h := by
                        intro k2
                        induction k2 with
                        | zero =>
                          intro j2 h S2 a hj2 hain hmk hM hF heq2
                          refine aw_iload dX12_bag_136 rfl ?_
                          refine aw_iload dX12_bag_138 rfl ?_
                          refine aw_icmp_ge (tgt := 238) dX12_bag_140 (by decide) (fun c140 => ?_) (fun c140 => ?_)
                          · refine aw_iload dX12_bag_238 rfl ?_
                            refine aw_iload dX12_bag_240 rfl ?_
                            refine aw_icmp_ge (tgt := 255) dX12_bag_242 (by decide) (fun c242 => ?_) (fun c242 => ?_)
                            · refine aw_bipush (v := -5) dX12_bag_255 (by decide) ?_
                              exact aw_iret dX12_bag_257 rfl (mo_fin ((if_neg c5).trans ((if_neg c13).trans ((if_neg c18).trans ((if_neg c28).trans ((if_pos c34).trans ((congrArg (fun z : sT × Int32 => mBgY L0 z M p q e i) (show mBgB S0 p q e M = (S, x) from heq1)).trans ((if_neg c107).trans ((if_neg c113).trans ((congrArg (fun z : sT => mBgR L0 z (mStep S q e x M 14 p.toNatClampNeg) i) heq2).trans (if_pos c242)))))))))) hM hF)
                            · refine aw_aload_n dX12_bag_245 rfl ?_
                              refine aw_get dX12_bag_246 flX12_55 (mo_c0 hM) rfl ?_
                              refine aw_iload dX12_bag_249 rfl ?_
                              refine aw_iald dX12_bag_251 (mo_c16 hM) (bag_in c34 c113 c242 hs6) ?_
                              refine aw_goto (tgt := 257) dX12_bag_252 (by decide) ?_
                              exact aw_iret dX12_bag_257 rfl (mo_fin ((if_neg c5).trans ((if_neg c13).trans ((if_neg c18).trans ((if_neg c28).trans ((if_pos c34).trans ((congrArg (fun z : sT × Int32 => mBgY L0 z M p q e i) (show mBgB S0 p q e M = (S, x) from heq1)).trans ((if_neg c107).trans ((if_neg c113).trans ((congrArg (fun z : sT => mBgR L0 z (mStep S q e x M 14 p.toNatClampNeg) i) heq2).trans (if_neg c242)))))))))) hM hF)
                          · exact absurd ((i_le_nI (x := (mStep S q e x M 14 p.toNatClampNeg)) (j := j2) (by omega)).mpr (by omega)) c140
                        | succ k2 ih2 =>
                          intro j2 h S2 a hj2 hain hmk hM hF heq2
                          refine aw_iload dX12_bag_136 rfl ?_
                          refine aw_iload dX12_bag_138 rfl ?_
                          refine aw_icmp_ge (tgt := 238) dX12_bag_140 (by decide) (fun c140 => ?_) (fun c140 => ?_)
                          · exact absurd ((i_le_nI (x := (mStep S q e x M 14 p.toNatClampNeg)) (j := j2) (by omega)).mp c140) (by omega)
                          · refine aw_aload_n dX12_bag_143 rfl ?_
                            refine aw_get dX12_bag_144 flX12_55 (mo_c0 hM) rfl ?_
                            refine aw_iload dX12_bag_147 rfl ?_
                            refine aw_iload dX12_bag_149 rfl ?_
                            refine aw_iN_mo15 dX12_bag_151 hM rfl (by omega) (fun h hM ho => ?_)
                            have hF := hF.trans ho
                            refine aw_iconst (v := -1) dX12_bag_152 (by decide) ?_
                            refine aw_istore dX12_bag_153 (by decide) ?_
                            refine aw_aload_n dX12_bag_155 rfl ?_
                            refine aw_get dX12_bag_156 flX12_77 (mo_c0 hM) rfl ?_
                            refine aw_iconst (v := 1) dX12_bag_159 (by decide) ?_
                            refine aw_isub dX12_bag_160 ?_
                            refine aw_istore dX12_bag_161 (by decide) ?_
                            have key3 : ∀ (k : Nat) (y : Int32), k ≤ M → mBgN (sA S2 15 (upd (S2 15) j2 a)) a M (-1) = mBgN (sA S2 15 (upd (S2 15) j2 a)) a k y → aw l E mX12_bag (aw_Z E (mo_post n h0 m (mBag S0 L0 M p q e i))) (d + 4) 0 0 163 [(0, .ref m), (4, .int i), (6, .int (mStep S q e x M 14 p.toNatClampNeg)), (7, .int a), (8, .int (nI j2)), (9, .int y), (10, .int (nI k + (-1)))] [] n h := by
                              intro k
                              induction k with
                              | zero =>
                                intro y hk heq3
                                refine aw_iload dX12_bag_163 rfl ?_
                                refine aw_if_lt (tgt := 217) dX12_bag_165 (by decide) (fun c165 => ?_) (fun c165 => ?_)
                                · refine aw_iload dX12_bag_217 rfl ?_
                                  refine aw_iconst (v := -1) dX12_bag_219 (by decide) ?_
                                  refine aw_icmp_ne (tgt := 228) dX12_bag_220 (by decide) (fun c220 => ?_) (fun c220 => ?_)
                                  · refine aw_iload dX12_bag_228 rfl ?_
                                    refine aw_istore dX12_bag_230 (by decide) ?_
                                    refine aw_inc (w := 1) dX12_bag_232 rfl (by decide) (by decide) ?_
                                    refine aw_goto (tgt := 136) dX12_bag_235 (by decide) ?_
                                    have hy : vp_in y 6 := (((show mBgN (sA S2 15 (upd (S2 15) j2 a)) a M (-1) = y from heq3) ▸ mBgN_in (S := sA S2 15 (upd (S2 15) j2 a)) (a := a) M (-1) hm6 (Or.inl rfl)).resolve_left c220)
                                    exact aw_loc [0, 4, 6, 7, 8] (ls2 := [(0, .ref m), (4, .int i), (6, .int (mStep S q e x M 14 p.toNatClampNeg)), (7, .int y), (8, .int (nI (j2 + 1)))]) (by first | (rw [nI_succ]; rfl) | rfl) (ih2 (j2 + 1) _ _ y (by omega) hy (by exact hmk) hM hF (heq2.trans (congrArg (mBgW M k2 (j2 + 1) (sA S2 15 (upd (S2 15) j2 a))) (show mBgG (sA S2 15 (upd (S2 15) j2 a)) a M = y by unfold mBgG; rw [heq3]; exact if_neg c220))))
                                  · refine aw_iload dX12_bag_223 rfl ?_
                                    refine aw_goto (tgt := 230) dX12_bag_225 (by decide) ?_
                                    refine aw_istore dX12_bag_230 (by decide) ?_
                                    refine aw_inc (w := 1) dX12_bag_232 rfl (by decide) (by decide) ?_
                                    refine aw_goto (tgt := 136) dX12_bag_235 (by decide) ?_
                                    have hy : vp_in a 6 := hain
                                    exact aw_loc [0, 4, 6, 7, 8] (ls2 := [(0, .ref m), (4, .int i), (6, .int (mStep S q e x M 14 p.toNatClampNeg)), (7, .int a), (8, .int (nI (j2 + 1)))]) (by first | (rw [nI_succ]; rfl) | rfl) (ih2 (j2 + 1) _ _ a (by omega) hy (by exact hmk) hM hF (heq2.trans (congrArg (mBgW M k2 (j2 + 1) (sA S2 15 (upd (S2 15) j2 a))) (show mBgG (sA S2 15 (upd (S2 15) j2 a)) a M = a by unfold mBgG; rw [heq3]; exact if_pos c220))))
                                · exact absurd (by decide) c165
                              | succ k ih3 =>
                                intro y hk heq3
                                rw [pk_m1]
                                refine aw_iload dX12_bag_163 rfl ?_
                                refine aw_if_lt (tgt := 217) dX12_bag_165 (by decide) (fun c165 => ?_) (fun c165 => ?_)
                                · exact absurd c165 (nI_pos (by omega))
                                · refine aw_aload_n dX12_bag_168 rfl ?_
                                  refine aw_get dX12_bag_169 flX12_25 (mo_c0 hM) rfl ?_
                                  refine aw_iload dX12_bag_172 rfl ?_
                                  refine aw_iald dX12_bag_174 (mo_c6 hM) hain ?_
                                  refine aw_iload dX12_bag_175 rfl ?_
                                  refine aw_callS2p dX12_bag_177 cmX12_has csX12_199 (Nat.le_of_ble_eq_true rfl) tX12_has ?_
                                  refine aw_if_eq (tgt := 207) dX12_bag_180 (by decide) (fun c180 => ?_) (fun c180 => ?_)
                                  · refine aw_iload dX12_bag_207 rfl ?_
                                    refine aw_istore dX12_bag_209 (by decide) ?_
                                    refine aw_inc (w := (-1)) dX12_bag_211 rfl (by decide) (by decide) ?_
                                    refine aw_goto (tgt := 163) dX12_bag_214 (by decide) ?_
                                    exact aw_loc [0, 4, 6, 7, 8, 9, 10] (ls2 := [(0, .ref m), (4, .int i), (6, .int (mStep S q e x M 14 p.toNatClampNeg)), (7, .int a), (8, .int (nI j2)), (9, .int y), (10, .int (nI k + (-1)))]) rfl (ih3 y (by omega) (heq3.trans (if_pos c180)))
                                  · refine aw_aload_n dX12_bag_183 rfl ?_
                                    refine aw_get dX12_bag_184 flX12_52 (mo_c0 hM) rfl ?_
                                    refine aw_iload dX12_bag_187 rfl ?_
                                    refine aw_ialdN dX12_bag_189 (mo_c15 hM) rfl (by omega) (by decide) ?_
                                    refine aw_aload_n dX12_bag_190 rfl ?_
                                    refine aw_get dX12_bag_191 flX12_52 (mo_c0 hM) rfl ?_
                                    refine aw_iload dX12_bag_194 rfl ?_
                                    refine aw_iald dX12_bag_196 (mo_c15 hM) hain ?_
                                    refine aw_iconst (v := 1) dX12_bag_197 (by decide) ?_
                                    refine aw_isub dX12_bag_198 ?_
                                    refine aw_icmp_ne (tgt := 207) dX12_bag_199 (by decide) (fun c199 => ?_) (fun c199 => ?_)
                                    · refine aw_iload dX12_bag_207 rfl ?_
                                      refine aw_istore dX12_bag_209 (by decide) ?_
                                      refine aw_inc (w := (-1)) dX12_bag_211 rfl (by decide) (by decide) ?_
                                      refine aw_goto (tgt := 163) dX12_bag_214 (by decide) ?_
                                      exact aw_loc [0, 4, 6, 7, 8, 9, 10] (ls2 := [(0, .ref m), (4, .int i), (6, .int (mStep S q e x M 14 p.toNatClampNeg)), (7, .int a), (8, .int (nI j2)), (9, .int y), (10, .int (nI k + (-1)))]) rfl (ih3 y (by omega) (heq3.trans ((if_neg c180).trans (if_neg c199))))
                                    · refine aw_iload dX12_bag_202 rfl ?_
                                      refine aw_goto (tgt := 209) dX12_bag_204 (by decide) ?_
                                      refine aw_istore dX12_bag_209 (by decide) ?_
                                      refine aw_inc (w := (-1)) dX12_bag_211 rfl (by decide) (by decide) ?_
                                      refine aw_goto (tgt := 163) dX12_bag_214 (by decide) ?_
                                      exact aw_loc [0, 4, 6, 7, 8, 9, 10] (ls2 := [(0, .ref m), (4, .int i), (6, .int (mStep S q e x M 14 p.toNatClampNeg)), (7, .int a), (8, .int (nI j2)), (9, .int (nI k)), (10, .int (nI k + (-1)))]) rfl (ih3 (nI k) (by omega) (heq3.trans ((if_neg c180).trans (if_pos c199))))
                            exact aw_loc [0, 4, 6, 7, 8, 9, 10] (ls2 := [(0, .ref m), (4, .int i), (6, .int (mStep S q e x M 14 p.toNatClampNeg)), (7, .int a), (8, .int (nI j2)), (9, .int (-1)), (10, .int (nI M + (-1)))]) (by rw [← Int32.sub_eq_add_neg, ← hmk]; rfl) (key3 M (-1) (Nat.le_refl M) rfl)
                      exact aw_loc [0, 4, 6, 7, 8] (ls2 := [(0, .ref m), (4, .int i), (6, .int (mStep S q e x M 14 p.toNatClampNeg)), (7, .int p), (8, .int (nI 0))]) rfl (key2 ((mStep S q e x M 14 p.toNatClampNeg).toNatClampNeg) 0 _ _ p (by first | rfl | omega) (mIs_in c5 hm hm6) hmk hM hF rfl)
                    · refine aw_iload dX12_bag_116 rfl ?_
                      exact aw_iret dX12_bag_118 rfl (mo_fin ((if_neg c5).trans ((if_neg c13).trans ((if_neg c18).trans ((if_neg c28).trans ((if_pos c34).trans ((congrArg (fun z : sT × Int32 => mBgY L0 z M p q e i) (show mBgB S0 p q e M = (S, x) from heq1)).trans ((if_neg c107).trans (if_pos c113)))))))) hM hF)
                · exact absurd ((le_M hmk hm6 (j := j1) (by omega)).mpr (by omega)) c54
              | succ k1 ih1 =>
                intro j1 h S x hj1 hmk hM hF heq1
                refine aw_iload dX12_bag_48 rfl ?_
                refine aw_aload_n dX12_bag_50 rfl ?_
                refine aw_get dX12_bag_51 flX12_77 (mo_c0 hM) rfl ?_
                refine aw_icmp_ge (tgt := 104) dX12_bag_54 (by decide) (fun c54 => ?_) (fun c54 => ?_)
                · exact absurd ((le_M hmk hm6 (j := j1) (by omega)).mp c54) (by omega)
                · refine aw_aload_n dX12_bag_57 rfl ?_
                  refine aw_iload dX12_bag_58 rfl ?_
                  refine aw_iload_n dX12_bag_60 rfl ?_
                  refine aw_callV2p dX12_bag_61 cmX12_weight cvX12_186 (mo_c0 hM) (Nat.le_of_ble_eq_true rfl) (tX12_weight hM (vp_in_nI (by omega) (by decide))) ?_
                  refine aw_istore dX12_bag_64 (by decide) ?_
                  refine aw_iload dX12_bag_66 rfl ?_
                  refine aw_iload dX12_bag_68 rfl ?_
                  refine aw_icmp_le (tgt := 94) dX12_bag_70 (by decide) (fun c70 => ?_) (fun c70 => ?_)
                  · refine aw_iload dX12_bag_94 rfl ?_
                    refine aw_istore dX12_bag_96 (by decide) ?_
                    refine aw_inc (w := 1) dX12_bag_98 rfl (by decide) (by decide) ?_
                    refine aw_goto (tgt := 48) dX12_bag_101 (by decide) ?_
                    exact aw_loc [0, 1, 2, 3, 4, 5, 6] (ls2 := [(0, .ref m), (1, .int p), (2, .int q), (3, .int e), (4, .int i), (5, .int x), (6, .int (nI (j1 + 1)))]) (by first | (rw [nI_succ]; rfl) | rfl) (ih1 (j1 + 1) _ _ x (by omega) (by exact hmk) hM hF (heq1.trans (if_pos c70)))
                  · refine aw_aload_n dX12_bag_73 rfl ?_
                    refine aw_iload_n dX12_bag_74 rfl ?_
                    refine aw_iload_n dX12_bag_75 rfl ?_
                    refine aw_iload_n dX12_bag_76 rfl ?_
                    refine aw_iload dX12_bag_77 rfl ?_
                    refine aw_callV4e dX12_bag_79 cmX12_setSteps cvX12_222 (mo_c0 hM) (Nat.le_of_ble_eq_true rfl) (tX12_setSteps hM (by exact hmk) hm6 (mIs_m1 c5 hm) (mIs_in c5 hm hm6) (mIs_in c13 hm hm6)) (fun r n' h' hq => ?_)
                    obtain ⟨rfl, rfl, hM, ho⟩ := hq
                    have hF := hF.trans ho
                    have hmk := mStep_hk hM hmk
                    refine aw_aload_n dX12_bag_82 rfl ?_
                    refine aw_get dX12_bag_83 flX12_77 (mo_c0 hM) rfl ?_
                    refine aw_icmp_gt (tgt := 94) dX12_bag_86 (by decide) (fun c86 => ?_) (fun c86 => ?_)
                    · refine aw_iload dX12_bag_94 rfl ?_
                      refine aw_istore dX12_bag_96 (by decide) ?_
                      refine aw_inc (w := 1) dX12_bag_98 rfl (by decide) (by decide) ?_
                      refine aw_goto (tgt := 48) dX12_bag_101 (by decide) ?_
                      exact aw_loc [0, 1, 2, 3, 4, 5, 6] (ls2 := [(0, .ref m), (1, .int p), (2, .int q), (3, .int e), (4, .int i), (5, .int x), (6, .int (nI (j1 + 1)))]) (by first | (rw [nI_succ]; rfl) | rfl) (ih1 (j1 + 1) _ _ x (by omega) (by exact hmk) hM hF (heq1.trans ((if_neg c70).trans (if_pos c86))))
                    · refine aw_iload dX12_bag_89 rfl ?_
                      refine aw_goto (tgt := 96) dX12_bag_91 (by decide) ?_
                      refine aw_istore dX12_bag_96 (by decide) ?_
                      refine aw_inc (w := 1) dX12_bag_98 rfl (by decide) (by decide) ?_
                      refine aw_goto (tgt := 48) dX12_bag_101 (by decide) ?_
                      exact aw_loc [0, 1, 2, 3, 4, 5, 6] (ls2 := [(0, .ref m), (1, .int p), (2, .int q), (3, .int e), (4, .int i), (5, .int _), (6, .int (nI (j1 + 1)))]) (by first | (rw [nI_succ]; rfl) | rfl) (ih1 (j1 + 1) _ _ _ (by omega) (by exact hmk) hM hF (heq1.trans ((if_neg c70).trans (if_neg c86))))
            exact aw_loc [0, 1, 2, 3, 4, 5, 6] (ls2 := [(0, .ref m), (1, .int p), (2, .int q), (3, .int e), (4, .int i), (5, .int (-1)), (6, .int (nI 0))]) rfl (key1 (M) 0 _ S0 (-1) (by first | rfl | omega) hm hM hF rfl)
          · refine aw_aload_n dX12_bag_37 rfl ?_
            refine aw_callV0e dX12_bag_38 cmX12_ten cvX12_219 (mo_c0 hM) (Nat.le_of_ble_eq_true rfl) (tX12_ten hM) (fun r n' h' hq => ?_)
            obtain ⟨rfl, rfl, hM, ho⟩ := hq
            have hF := hF.trans ho
            exact aw_iret dX12_bag_41 rfl (mo_fin (((((if_neg c5).trans (if_neg c13)).trans (if_neg c18)).trans (if_neg c28)).trans (if_neg c34)) hM hF)
theorem nI_pr {M : Nat} (h : 1 ≤ M) : nI M - 1 = nI (M - 1) := by
  obtain ⟨m, rfl⟩ : ∃ m, M = m + 1 := ⟨M - 1, by omega⟩
  exact nI_pred m
theorem nI_pr2 {M : Nat} (h : 1 ≤ M) : nI (M - 1) = nI M + (-1) := by
  rw [← nI_pr h, Int32.sub_eq_add_neg]
theorem nI_ge0 {j : Nat} (h : j < 2 ^ 31) : (0 : Int32) ≤ nI j := Int32.not_lt.mp (nI_pos h)
set_option maxHeartbeats 1000000 in
set_option maxRecDepth 100000 in
theorem tX12_nextBags {l : Launch} {E : aw_E} {d n m : Nat} {h0 : ah} {S0 : sT} {L0 : Nat → Int64} (hM : is_mo h0 m S0 L0) {M : Nat} (hm : S0 30 0 = nI M) (hm6 : M ≤ 6) (hm1 : 1 ≤ M) : am l E mX12_nextBags d 0 0 [.ref m] n h0 (mo_post n h0 m (((((mNx S0 M).1 : Int32), (mNx S0 M).2, L0) : Int32 × sM))) := by
  refine am_of (by decide +kernel) (Nat.le_of_ble_eq_true rfl) ?_
  have hF : ah_off h0 h0 m 21 := ah_off.rf
  refine aw_aload_n dX12_nextBags_0 rfl ?_
  refine aw_get dX12_nextBags_1 flX12_77 (mo_c0 hM) rfl ?_
  refine aw_iconst (v := 2) dX12_nextBags_4 (by decide) ?_
  refine aw_isub dX12_nextBags_5 ?_
  refine aw_istore_n dX12_nextBags_6 (by decide) ?_
  have key1 : ∀ (k : Nat), k ≤ M - 1 → nbK (S0 16) (M - 1) = nbK (S0 16) k → aw l E mX12_nextBags (aw_Z E (mo_post n h0 m (((((mNx S0 M).1 : Int32), (mNx S0 M).2, L0) : Int32 × sM)))) d 0 0 7 [(0, .ref m), (1, .int (nI k + (-1)))] [] n h0 := by
    intro k
    induction k with
    | zero =>
      intro hk heq1
      refine aw_iload_n dX12_nextBags_7 rfl ?_
      refine aw_if_lt (tgt := 34) dX12_nextBags_8 (by decide) (fun c8 => ?_) (fun c8 => ?_)
      · refine aw_iload_n dX12_nextBags_34 rfl ?_
        refine aw_if_ge (tgt := 40) dX12_nextBags_35 (by decide) (fun c35 => ?_) (fun c35 => ?_)
        · exact absurd c35 (by decide)
        · refine aw_iconst (v := 0) dX12_nextBags_38 (by decide) ?_
          exact aw_zret dX12_nextBags_39 rfl rfl (mo_fin (congrArg (fun z : Int32 × sT => (z.1, z.2, L0)) (if_pos heq1)) hM hF)
      · exact absurd (by decide) c8
    | succ k ih =>
      intro hk heq1
      rw [pk_m1]
      refine aw_iload_n dX12_nextBags_7 rfl ?_
      refine aw_if_lt (tgt := 34) dX12_nextBags_8 (by decide) (fun c8 => ?_) (fun c8 => ?_)
      · exact absurd c8 (nI_pos (by omega))
      · refine aw_aload_n dX12_nextBags_11 rfl ?_
        refine aw_get dX12_nextBags_12 flX12_58 (mo_c0 hM) rfl ?_
        refine aw_iload_n dX12_nextBags_15 rfl ?_
        refine aw_ialdN dX12_nextBags_16 (mo_c17 hM) rfl (by omega) (by decide) ?_
        refine aw_aload_n dX12_nextBags_17 rfl ?_
        refine aw_get dX12_nextBags_18 flX12_58 (mo_c0 hM) rfl ?_
        refine aw_iload_n dX12_nextBags_21 rfl ?_
        refine aw_iconst (v := 1) dX12_nextBags_22 (by decide) ?_
        refine aw_iadd dX12_nextBags_23 ?_
        refine aw_ialdN dX12_nextBags_24 (mo_c17 hM) (show nI k + 1 = nI (k + 1) from nI_1 k) (by omega) (by decide) ?_
        refine aw_icmp_le (tgt := 34) dX12_nextBags_25 (by decide) (fun c25 => ?_) (fun c25 => ?_)
        · refine aw_iload_n dX12_nextBags_34 rfl ?_
          refine aw_if_ge (tgt := 40) dX12_nextBags_35 (by decide) (fun c35 => ?_) (fun c35 => ?_)
          · refine aw_aload_n dX12_nextBags_40 rfl ?_
            refine aw_get dX12_nextBags_41 flX12_77 (mo_c0 hM) rfl ?_
            refine aw_iconst (v := 1) dX12_nextBags_44 (by decide) ?_
            refine aw_isub dX12_nextBags_45 ?_
            refine aw_istore_n dX12_nextBags_46 (by decide) ?_
            have hK : nbK (S0 16) (M - 1) = k + 1 := heq1.trans (if_pos c25)
            generalize hik : k = i at *
            have key2 : ∀ (k : Nat), i < k → k ≤ M → nbJ (S0 16) i M = nbJ (S0 16) i k → aw l E mX12_nextBags (aw_Z E (mo_post n h0 m (((((mNx S0 M).1 : Int32), (mNx S0 M).2, L0) : Int32 × sM)))) d 0 0 47 [(0, .ref m), (1, .int (nI i)), (2, .int (nI k + (-1)))] [] n h0 := by
              intro k
              induction k with
              | zero =>
                intro hik2 hkM heq2
                exact absurd hik2 (by omega)
              | succ k ih2 =>
                intro hik2 hkM heq2
                rw [pk_m1]
                refine aw_aload_n dX12_nextBags_47 rfl ?_
                refine aw_get dX12_nextBags_48 flX12_58 (mo_c0 hM) rfl ?_
                refine aw_iload_n dX12_nextBags_51 rfl ?_
                refine aw_ialdN dX12_nextBags_52 (mo_c17 hM) rfl (by omega) (by decide) ?_
                refine aw_aload_n dX12_nextBags_53 rfl ?_
                refine aw_get dX12_nextBags_54 flX12_58 (mo_c0 hM) rfl ?_
                refine aw_iload_n dX12_nextBags_57 rfl ?_
                refine aw_ialdN dX12_nextBags_58 (mo_c17 hM) rfl (by omega) (by decide) ?_
                refine aw_icmp_ge (tgt := 68) dX12_nextBags_59 (by decide) (fun c59 => ?_) (fun c59 => ?_)
                · refine aw_aload_n dX12_nextBags_68 rfl ?_
                  refine aw_get dX12_nextBags_69 flX12_58 (mo_c0 hM) rfl ?_
                  refine aw_iload_n dX12_nextBags_72 rfl ?_
                  refine aw_ialdN dX12_nextBags_73 (mo_c17 hM) rfl (by omega) (by decide) ?_
                  refine aw_istore_n dX12_nextBags_74 (by decide) ?_
                  refine aw_aload_n dX12_nextBags_75 rfl ?_
                  refine aw_get dX12_nextBags_76 flX12_58 (mo_c0 hM) rfl ?_
                  refine aw_iload_n dX12_nextBags_79 rfl ?_
                  refine aw_aload_n dX12_nextBags_80 rfl ?_
                  refine aw_get dX12_nextBags_81 flX12_58 (mo_c0 hM) rfl ?_
                  refine aw_iload_n dX12_nextBags_84 rfl ?_
                  refine aw_ialdN dX12_nextBags_85 (mo_c17 hM) rfl (by omega) (by decide) ?_
                  refine aw_iN_mo16 dX12_nextBags_86 hM rfl (by omega) (fun h hM ho => ?_)
                  have hF := hF.trans ho
                  refine aw_aload_n dX12_nextBags_87 rfl ?_
                  refine aw_get dX12_nextBags_88 flX12_58 (mo_c0 hM) rfl ?_
                  refine aw_iload_n dX12_nextBags_91 rfl ?_
                  refine aw_iload_n dX12_nextBags_92 rfl ?_
                  refine aw_iN_mo16 dX12_nextBags_93 hM rfl (by omega) (fun h hM ho => ?_)
                  have hF := hF.trans ho
                  refine aw_iload_n dX12_nextBags_94 rfl ?_
                  refine aw_iconst (v := 1) dX12_nextBags_95 (by decide) ?_
                  refine aw_iadd dX12_nextBags_96 ?_
                  refine aw_istore dX12_nextBags_97 (by decide) ?_
                  refine aw_aload_n dX12_nextBags_99 rfl ?_
                  refine aw_get dX12_nextBags_100 flX12_77 (mo_c0 hM) rfl ?_
                  refine aw_iconst (v := 1) dX12_nextBags_103 (by decide) ?_
                  refine aw_isub dX12_nextBags_104 ?_
                  refine aw_istore dX12_nextBags_105 (by decide) ?_
                  have hJ : nbJ (S0 16) i M = k := heq2.trans (if_pos c59)
                  have hE : mNx S0 M = (1, mRv 6 (i + 1) (M - 1) (mSw S0 i k)) := by
                    unfold mNx
                    rw [hK, if_neg (by omega)]
                    show (1, mRv 6 (i + 1) (M - 1) (mSw S0 (i + 1 - 1) (nbJ (S0 16) (i + 1 - 1) M))) = _
                    rw [Nat.add_sub_cancel, hJ]
                  have key3 : ∀ (f : Nat) (h : ah) (S : sT) (x y : Nat), y < 6 → x < 7 → y ≤ x + f → mNx S0 M = (1, mRv f x y S) → is_mo h m S L0 → ah_off h0 h m 21 → aw l E mX12_nextBags (aw_Z E (mo_post n h0 m (((((mNx S0 M).1 : Int32), (mNx S0 M).2, L0) : Int32 × sM)))) d 0 0 107 [(0, .ref m), (4, .int (nI x)), (5, .int (nI y))] [] n h := by
                    intro f
                    induction f with
                    | zero =>
                      intro h S x y hy hx hf heq3 hM hF
                      refine aw_iload dX12_nextBags_107 rfl ?_
                      refine aw_iload dX12_nextBags_109 rfl ?_
                      refine aw_icmp_ge (tgt := 153) dX12_nextBags_111 (by decide) (fun c111 => ?_) (fun c111 => ?_)
                      · have hyx := (nI_leI (a := y) (b := x) (by omega) (by omega)).mp c111
                        refine aw_iconst (v := 1) dX12_nextBags_153 (by decide) ?_
                        exact aw_zret dX12_nextBags_154 rfl rfl (mo_fin (congrArg (fun z : Int32 × sT => (z.1, z.2, L0)) heq3) hM hF)
                      · exact absurd (nI_le (by omega) (by omega)) c111
                    | succ f ih3 =>
                      intro h S x y hy hx hf heq3 hM hF
                      refine aw_iload dX12_nextBags_107 rfl ?_
                      refine aw_iload dX12_nextBags_109 rfl ?_
                      refine aw_icmp_ge (tgt := 153) dX12_nextBags_111 (by decide) (fun c111 => ?_) (fun c111 => ?_)
                      · have hyx := (nI_leI (a := y) (b := x) (by omega) (by omega)).mp c111
                        refine aw_iconst (v := 1) dX12_nextBags_153 (by decide) ?_
                        exact aw_zret dX12_nextBags_154 rfl rfl (mo_fin (congrArg (fun z : Int32 × sT => (z.1, z.2, L0)) (heq3.trans (congrArg (fun z : sT => ((1 : Int32), z)) (if_pos (by omega))))) hM hF)
                      · have hyx := mt (nI_leI (a := y) (b := x) (by omega) (by omega)).mpr c111
                        refine aw_aload_n dX12_nextBags_114 rfl ?_
                        refine aw_get dX12_nextBags_115 flX12_58 (mo_c0 hM) rfl ?_
                        refine aw_iload dX12_nextBags_118 rfl ?_
                        refine aw_ialdN dX12_nextBags_120 (mo_c17 hM) rfl (by omega) (by decide) ?_
                        refine aw_istore_n dX12_nextBags_121 (by decide) ?_
                        refine aw_aload_n dX12_nextBags_122 rfl ?_
                        refine aw_get dX12_nextBags_123 flX12_58 (mo_c0 hM) rfl ?_
                        refine aw_iload dX12_nextBags_126 rfl ?_
                        refine aw_aload_n dX12_nextBags_128 rfl ?_
                        refine aw_get dX12_nextBags_129 flX12_58 (mo_c0 hM) rfl ?_
                        refine aw_iload dX12_nextBags_132 rfl ?_
                        refine aw_ialdN dX12_nextBags_134 (mo_c17 hM) rfl (by omega) (by decide) ?_
                        refine aw_iN_mo16 dX12_nextBags_135 hM rfl (by omega) (fun h hM ho => ?_)
                        have hF := hF.trans ho
                        refine aw_aload_n dX12_nextBags_136 rfl ?_
                        refine aw_get dX12_nextBags_137 flX12_58 (mo_c0 hM) rfl ?_
                        refine aw_iload dX12_nextBags_140 rfl ?_
                        refine aw_iload_n dX12_nextBags_142 rfl ?_
                        refine aw_iN_mo16 dX12_nextBags_143 hM rfl (by omega) (fun h hM ho => ?_)
                        have hF := hF.trans ho
                        refine aw_inc (w := 1) dX12_nextBags_144 rfl (by decide) (by decide) ?_
                        refine aw_inc (w := (-1)) dX12_nextBags_147 rfl (by decide) (by decide) ?_
                        refine aw_goto (tgt := 107) dX12_nextBags_150 (by decide) ?_
                        exact aw_loc [0, 4, 5] (ls2 := [(0, .ref m), (4, .int (nI (x + 1))), (5, .int (nI (y - 1)))]) (by rw [nI_succ, nI_pr2 (show 1 ≤ y by omega)]; rfl) (ih3 _ _ (x + 1) (y - 1) (by omega) (by omega) (by omega) (heq3.trans (congrArg (fun z : sT => ((1 : Int32), z)) (if_neg (by omega)))) hM hF)
                  exact aw_loc [0, 4, 5] (ls2 := [(0, .ref m), (4, .int (nI (i + 1))), (5, .int (nI (M - 1)))]) (by rw [← nI_succ, show nI (M - 1) = nI M - 1 from (nI_pr hm1).symm, ← hm]; rfl) (key3 6 _ _ _ _ (by omega) (by omega) (by omega) hE hM hF)
                · refine aw_inc (w := (-1)) dX12_nextBags_62 rfl (by decide) (by decide) ?_
                  refine aw_goto (tgt := 47) dX12_nextBags_65 (by decide) ?_
                  have hne : i ≠ k := fun e => c59 (by rw [e]; exact Int32.le_refl _)
                  exact aw_loc [0, 1, 2] (ls2 := [(0, .ref m), (1, .int (nI i)), (2, .int (nI k + (-1)))]) rfl (ih2 (by omega) (by omega) (heq2.trans (if_neg c59)))
            exact aw_loc [0, 1, 2] (ls2 := [(0, .ref m), (1, .int (nI i)), (2, .int (nI M + (-1)))]) (by rw [← Int32.sub_eq_add_neg, ← hm]; rfl) (key2 M (by omega) (Nat.le_refl _) rfl)
          · exact absurd (nI_ge0 (by omega)) c35
        · refine aw_inc (w := (-1)) dX12_nextBags_28 rfl (by decide) (by decide) ?_
          refine aw_goto (tgt := 7) dX12_nextBags_31 (by decide) ?_
          exact aw_loc [0, 1] (ls2 := [(0, .ref m), (1, .int (nI k + (-1)))]) rfl (ih (by omega) (heq1.trans (if_neg c25)))
  exact aw_loc [0, 1] (ls2 := [(0, .ref m), (1, .int (nI (M - 1) + (-1)))]) (by rw [← nb_m2 hm1, ← hm]; rfl) (key1 (M - 1) (Nat.le_refl _) rfl)
set_option maxHeartbeats 1000000 in
set_option maxRecDepth 100000 in
theorem tX12_shelves {l : Launch} {E : aw_E} {d n m : Nat} {h0 : ah} {S0 : sT} {L0 : Nat → Int64} (hM : is_mo h0 m S0 L0) {a c p : Int32} {M : Nat} (hm : S0 30 0 = nI M) (hm6 : M ≤ 6) {F : Nat} (hE : ¬ mShI M 0 S0 30 0 ≤ 0 → mShE a c M F (mShI M 0 S0) (-1)) : am l E mX12_shelves (d + 3) 0 0 [.ref m, .int a, .int c, .int p] n h0 (mo_post n h0 m (mShelves S0 L0 M F a c p)) := by
  refine am_of (by decide +kernel) (Nat.le_of_ble_eq_true rfl) ?_
  have hF : ah_off h0 h0 m 21 := ah_off.rf
  refine aw_iload_n dX12_shelves_0 rfl ?_
  refine aw_iconst (v := 0) dX12_shelves_1 (by decide) ?_
  refine aw_bipush (v := 20) dX12_shelves_2 (by decide) ?_
  refine aw_callS3p dX12_shelves_4 cmX12_in csX12_93 (Nat.le_of_ble_eq_true rfl) tX12_in ?_
  refine aw_if_eq (tgt := 33) dX12_shelves_7 (by decide) (fun c7 => ?_) (fun c7 => ?_)
  · refine aw_aload_n dX12_shelves_33 rfl ?_
    refine aw_callV0e dX12_shelves_34 cmX12_ten cvX12_219 (mo_c0 hM) (Nat.le_of_ble_eq_true rfl) (tX12_ten hM) (fun r n' h' hq => ?_)
    obtain ⟨rfl, rfl, hM, ho⟩ := hq
    have hF := hF.trans ho
    exact aw_iret dX12_shelves_37 rfl (mo_fin (if_pos c7) hM hF)
  · refine aw_iload_n dX12_shelves_10 rfl ?_
    refine aw_iconst (v := 0) dX12_shelves_11 (by decide) ?_
    refine aw_bipush (v := 9) dX12_shelves_12 (by decide) ?_
    refine aw_callS3p dX12_shelves_14 cmX12_in csX12_93 (Nat.le_of_ble_eq_true rfl) tX12_in ?_
    refine aw_if_eq (tgt := 33) dX12_shelves_17 (by decide) (fun c17 => ?_) (fun c17 => ?_)
    · refine aw_aload_n dX12_shelves_33 rfl ?_
      refine aw_callV0e dX12_shelves_34 cmX12_ten cvX12_219 (mo_c0 hM) (Nat.le_of_ble_eq_true rfl) (tX12_ten hM) (fun r n' h' hq => ?_)
      obtain ⟨rfl, rfl, hM, ho⟩ := hq
      have hF := hF.trans ho
      exact aw_iret dX12_shelves_37 rfl (mo_fin ((if_neg c7).trans (if_pos c17)) hM hF)
    · refine aw_iload_n dX12_shelves_20 rfl ?_
      refine aw_iconst (v := -1) dX12_shelves_21 (by decide) ?_
      refine aw_icmp_eq (tgt := 38) dX12_shelves_22 (by decide) (fun c22 => ?_) (fun c22 => ?_)
      · refine aw_iconst (v := 0) dX12_shelves_38 (by decide) ?_
        refine aw_istore dX12_shelves_39 (by decide) ?_
        have key1 : ∀ (k1 j1 : Nat) (h : ah) (S1 : sT), j1 + k1 = M → S1 30 0 = nI M → is_mo h m S1 L0 → ah_off h0 h m 21 → mShI M 0 S0 = mShI k1 j1 S1 → aw l E mX12_shelves (aw_Z E (mo_post n h0 m (mShelves S0 L0 M F a c p))) (d + 3) 0 0 41 [(0, .ref m), (1, .int a), (2, .int c), (3, .int p), (4, .int (nI j1))] [] n h := by
          intro k1
          induction k1 with
          | zero =>
            intro j1 h S1 hj1 hmk hM hF heq1
            refine aw_iload dX12_shelves_41 rfl ?_
            refine aw_aload_n dX12_shelves_43 rfl ?_
            refine aw_get dX12_shelves_44 flX12_77 (mo_c0 hM) rfl ?_
            refine aw_icmp_ge (tgt := 65) dX12_shelves_47 (by decide) (fun c47 => ?_) (fun c47 => ?_)
            · refine aw_iconst (v := -1) dX12_shelves_65 (by decide) ?_
              refine aw_istore dX12_shelves_66 (by decide) ?_
              refine aw_aload_n dX12_shelves_68 rfl ?_
              refine aw_get dX12_shelves_69 flX12_77 (mo_c0 hM) rfl ?_
              refine aw_if_le (tgt := 79) dX12_shelves_72 (by decide) (fun c72 => ?_) (fun c72 => ?_)
              · refine aw_iconst (v := 0) dX12_shelves_79 (by decide) ?_
                refine aw_istore dX12_shelves_80 (by decide) ?_
                have keyE : ∀ (h : ah) (S : sT) (x : Int32), S 30 0 = nI M → is_mo h m S L0 → ah_off h0 h m 21 → mShZ S0 a c M F = (S, x) → aw l E mX12_shelves (aw_Z E (mo_post n h0 m (mShelves S0 L0 M F a c p))) (d + 3) 0 0 82 [(0, .ref m), (1, .int a), (2, .int c), (3, .int p), (4, .int x), (5, .int 0)] [] n h := by
                  intro h S x hmk hM hF heqB
                  refine aw_iload dX12_shelves_82 rfl ?_
                  refine aw_if_eq (tgt := 197) dX12_shelves_84 (by decide) (fun c84 => ?_) (fun c84 => ?_)
                  · refine aw_iload_n dX12_shelves_197 rfl ?_
                    refine aw_iconst (v := -1) dX12_shelves_198 (by decide) ?_
                    refine aw_icmp_ne (tgt := 218) dX12_shelves_199 (by decide) (fun c199 => absurd c22 c199) (fun c199 => ?_)
                    refine aw_aload_n dX12_shelves_202 rfl ?_
                    refine aw_get dX12_shelves_203 flX12_77 (mo_c0 hM) rfl ?_
                    refine aw_if_ne (tgt := 213) dX12_shelves_206 (by decide) (fun c206 => ?_) (fun c206 => ?_)
                    · refine aw_iload dX12_shelves_213 rfl ?_
                      refine aw_goto (tgt := 224) dX12_shelves_215 (by decide) ?_
                      exact aw_iret dX12_shelves_224 rfl (mo_fin ((if_neg c7).trans ((if_neg c17).trans ((if_pos c22).trans ((congrArg (fun z : sT × Int32 => mShA L0 z p) heqB).trans ((if_pos c199).trans (if_neg c206)))))) hM hF)
                    · refine aw_iconst (v := 0) dX12_shelves_209 (by decide) ?_
                      refine aw_goto (tgt := 224) dX12_shelves_210 (by decide) ?_
                      exact aw_iret dX12_shelves_224 rfl (mo_fin ((if_neg c7).trans ((if_neg c17).trans ((if_pos c22).trans ((congrArg (fun z : sT × Int32 => mShA L0 z p) heqB).trans ((if_pos c199).trans (if_pos c206)))))) hM hF)
                  · exact absurd rfl c84
                exact aw_loc [0, 1, 2, 3, 4, 5] (ls2 := [(0, .ref m), (1, .int a), (2, .int c), (3, .int p), (4, .int (-1)), (5, .int 0)]) rfl (keyE _ _ _ hmk hM hF ((congrArg (fun z : sT => if z 30 0 ≤ 0 then (z, (-1 : Int32)) else mShL a c M F z (-1)) heq1).trans (if_pos c72)))
              · refine aw_iconst (v := 1) dX12_shelves_75 (by decide) ?_
                refine aw_goto (tgt := 80) dX12_shelves_76 (by decide) ?_
                refine aw_istore dX12_shelves_80 (by decide) ?_
                have keyE : ∀ (h : ah) (S : sT) (x : Int32), S 30 0 = nI M → is_mo h m S L0 → ah_off h0 h m 21 → mShZ S0 a c M F = (S, x) → aw l E mX12_shelves (aw_Z E (mo_post n h0 m (mShelves S0 L0 M F a c p))) (d + 3) 0 0 82 [(0, .ref m), (1, .int a), (2, .int c), (3, .int p), (4, .int x), (5, .int 0)] [] n h := by
                  intro h S x hmk hM hF heqB
                  refine aw_iload dX12_shelves_82 rfl ?_
                  refine aw_if_eq (tgt := 197) dX12_shelves_84 (by decide) (fun c84 => ?_) (fun c84 => ?_)
                  · refine aw_iload_n dX12_shelves_197 rfl ?_
                    refine aw_iconst (v := -1) dX12_shelves_198 (by decide) ?_
                    refine aw_icmp_ne (tgt := 218) dX12_shelves_199 (by decide) (fun c199 => absurd c22 c199) (fun c199 => ?_)
                    refine aw_aload_n dX12_shelves_202 rfl ?_
                    refine aw_get dX12_shelves_203 flX12_77 (mo_c0 hM) rfl ?_
                    refine aw_if_ne (tgt := 213) dX12_shelves_206 (by decide) (fun c206 => ?_) (fun c206 => ?_)
                    · refine aw_iload dX12_shelves_213 rfl ?_
                      refine aw_goto (tgt := 224) dX12_shelves_215 (by decide) ?_
                      exact aw_iret dX12_shelves_224 rfl (mo_fin ((if_neg c7).trans ((if_neg c17).trans ((if_pos c22).trans ((congrArg (fun z : sT × Int32 => mShA L0 z p) heqB).trans ((if_pos c199).trans (if_neg c206)))))) hM hF)
                    · refine aw_iconst (v := 0) dX12_shelves_209 (by decide) ?_
                      refine aw_goto (tgt := 224) dX12_shelves_210 (by decide) ?_
                      exact aw_iret dX12_shelves_224 rfl (mo_fin ((if_neg c7).trans ((if_neg c17).trans ((if_pos c22).trans ((congrArg (fun z : sT × Int32 => mShA L0 z p) heqB).trans ((if_pos c199).trans (if_pos c206)))))) hM hF)
                  · exact absurd rfl c84
                have hm1 : 1 ≤ M := by
                  rcases Nat.eq_zero_or_pos M with e | e
                  · exact absurd (by rw [hmk, e]; decide) c72
                  · exact e
                have keyW : ∀ (f : Nat) (h : ah) (S : sT) (x : Int32), S 30 0 = nI M → is_mo h m S L0 → ah_off h0 h m 21 → mShZ S0 a c M F = mShL a c M f S x → mShE a c M f S x → aw l E mX12_shelves (aw_Z E (mo_post n h0 m (mShelves S0 L0 M F a c p))) (d + 3) 0 0 82 [(0, .ref m), (1, .int a), (2, .int c), (3, .int p), (4, .int x), (5, .int 1)] [] n h := by
                  intro f
                  induction f with
                  | zero => intro h S x hmk hM hF heqW hE; exact False.elim hE
                  | succ f ihW =>
                    intro h S x hmk hM hF heqW hE
                    refine aw_iload dX12_shelves_82 rfl ?_
                    refine aw_if_eq (tgt := 197) dX12_shelves_84 (by decide) (fun c84 => ?_) (fun c84 => ?_)
                    · exact absurd c84 (by decide)
                    · refine aw_ldc dX12_shelves_87 kcX12_218 ?_
                      refine aw_istore dX12_shelves_89 (by decide) ?_
                      refine aw_iconst (v := 0) dX12_shelves_91 (by decide) ?_
                      refine aw_istore dX12_shelves_92 (by decide) ?_
                      have key2 : ∀ (k2 j2 : Nat) (y : Int32), j2 + k2 = M → mShY S a c M 0 1048576 = mShY S a c k2 j2 y → aw l E mX12_shelves (aw_Z E (mo_post n h0 m (mShelves S0 L0 M F a c p))) (d + 3) 0 0 94 [(0, .ref m), (1, .int a), (2, .int c), (3, .int p), (4, .int x), (6, .int y), (7, .int (nI j2))] [] n h := by
                        intro k2
                        induction k2 with
                        | zero =>
                          intro j2 y hj2  heq2
                          refine aw_iload dX12_shelves_94 rfl ?_
                          refine aw_aload_n dX12_shelves_96 rfl ?_
                          refine aw_get dX12_shelves_97 flX12_77 (mo_c0 hM) rfl ?_
                          refine aw_icmp_ge (tgt := 133) dX12_shelves_100 (by decide) (fun c100 => ?_) (fun c100 => ?_)
                          · refine aw_iconst (v := 0) dX12_shelves_133 (by decide) ?_
                            refine aw_istore dX12_shelves_134 (by decide) ?_
                            have key3 : ∀ (k3 j3 : Nat) (h : ah) (S3 : sT), j3 + k3 = M → S3 30 0 = nI M → is_mo h m S3 L0 → ah_off h0 h m 21 → mShC y x M 0 S = mShC y x k3 j3 S3 → aw l E mX12_shelves (aw_Z E (mo_post n h0 m (mShelves S0 L0 M F a c p))) (d + 3) 0 0 136 [(0, .ref m), (1, .int a), (2, .int c), (3, .int p), (4, .int x), (6, .int y), (7, .int (nI j3))] [] n h := by
                              intro k3
                              induction k3 with
                              | zero =>
                                intro j3 h S3 hj3 hmk hM hF heq3
                                refine aw_iload dX12_shelves_136 rfl ?_
                                refine aw_aload_n dX12_shelves_138 rfl ?_
                                refine aw_get dX12_shelves_139 flX12_77 (mo_c0 hM) rfl ?_
                                refine aw_icmp_ge (tgt := 172) dX12_shelves_142 (by decide) (fun c142 => ?_) (fun c142 => ?_)
                                · have heqC : mShC y x M 0 S = S3 := heq3
                                  refine aw_iload dX12_shelves_172 rfl ?_
                                  refine aw_iload dX12_shelves_174 rfl ?_
                                  refine aw_icmp_le (tgt := 184) dX12_shelves_176 (by decide) (fun c176 => ?_) (fun c176 => ?_)
                                  · refine aw_iload dX12_shelves_184 rfl ?_
                                    refine aw_istore dX12_shelves_186 (by decide) ?_
                                    refine aw_aload_n dX12_shelves_188 rfl ?_
                                    refine aw_callV0e dX12_shelves_189 cmX12_nextBags cvX12_225 (mo_c0 hM) (Nat.le_of_ble_eq_true rfl) (tX12_nextBags hM (by exact hmk) hm6 hm1) (fun r n' h' hq => ?_)
                                    obtain ⟨rfl, rfl, hM, ho⟩ := hq
                                    have hF := hF.trans ho
                                    have hmk := mNx_hk hM hmk
                                    refine aw_istore dX12_shelves_192 (by decide) ?_
                                    refine aw_goto (tgt := 82) dX12_shelves_194 (by decide) ?_
                                    have hB1 : mShB S a c x M = S3 := (congrArg (fun z => mShC z x M 0 S) heq2).trans heqC
                                    have hX1 : mShX S a c x M = x := by unfold mShX; rw [show mShY S a c M 0 1048576 = y from heq2]; exact if_pos c176
                                    have hW1 := heqW
                                    have hE1 := hE
                                    unfold mShL at hW1
                                    unfold mShE at hE1
                                    rw [hB1, hX1] at hW1 hE1
                                    by_cases g : (mNx S3 M).1 = 0
                                    · exact aw_loc [0, 1, 2, 3, 4, 5] (ls2 := [(0, .ref m), (1, .int a), (2, .int c), (3, .int p), (4, .int x), (5, .int 0)]) (by rw [← g]; rfl) (keyE _ _ _ hmk hM hF (hW1.trans (if_pos g)))
                                    · exact aw_loc [0, 1, 2, 3, 4, 5] (ls2 := [(0, .ref m), (1, .int a), (2, .int c), (3, .int p), (4, .int x), (5, .int 1)]) (by rw [← mNx_1 g]; rfl) (ihW _ _ _ hmk hM hF (hW1.trans (if_neg g)) (hE1 g))
                                  · refine aw_iload dX12_shelves_179 rfl ?_
                                    refine aw_goto (tgt := 186) dX12_shelves_181 (by decide) ?_
                                    refine aw_istore dX12_shelves_186 (by decide) ?_
                                    refine aw_aload_n dX12_shelves_188 rfl ?_
                                    refine aw_callV0e dX12_shelves_189 cmX12_nextBags cvX12_225 (mo_c0 hM) (Nat.le_of_ble_eq_true rfl) (tX12_nextBags hM (by exact hmk) hm6 hm1) (fun r n' h' hq => ?_)
                                    obtain ⟨rfl, rfl, hM, ho⟩ := hq
                                    have hF := hF.trans ho
                                    have hmk := mNx_hk hM hmk
                                    refine aw_istore dX12_shelves_192 (by decide) ?_
                                    refine aw_goto (tgt := 82) dX12_shelves_194 (by decide) ?_
                                    have hB1 : mShB S a c x M = S3 := (congrArg (fun z => mShC z x M 0 S) heq2).trans heqC
                                    have hX1 : mShX S a c x M = y := by unfold mShX; rw [show mShY S a c M 0 1048576 = y from heq2]; exact if_neg c176
                                    have hW1 := heqW
                                    have hE1 := hE
                                    unfold mShL at hW1
                                    unfold mShE at hE1
                                    rw [hB1, hX1] at hW1 hE1
                                    by_cases g : (mNx S3 M).1 = 0
                                    · exact aw_loc [0, 1, 2, 3, 4, 5] (ls2 := [(0, .ref m), (1, .int a), (2, .int c), (3, .int p), (4, .int y), (5, .int 0)]) (by rw [← g]; rfl) (keyE _ _ _ hmk hM hF (hW1.trans (if_pos g)))
                                    · exact aw_loc [0, 1, 2, 3, 4, 5] (ls2 := [(0, .ref m), (1, .int a), (2, .int c), (3, .int p), (4, .int y), (5, .int 1)]) (by rw [← mNx_1 g]; rfl) (ihW _ _ _ hmk hM hF (hW1.trans (if_neg g)) (hE1 g))
                                · exact absurd ((le_M hmk hm6 (j := j3) (by omega)).mpr (by omega)) c142
                              | succ k3 ih3 =>
                                intro j3 h S3 hj3 hmk hM hF heq3
                                refine aw_iload dX12_shelves_136 rfl ?_
                                refine aw_aload_n dX12_shelves_138 rfl ?_
                                refine aw_get dX12_shelves_139 flX12_77 (mo_c0 hM) rfl ?_
                                refine aw_icmp_ge (tgt := 172) dX12_shelves_142 (by decide) (fun c142 => ?_) (fun c142 => ?_)
                                · exact absurd ((le_M hmk hm6 (j := j3) (by omega)).mp c142) (by omega)
                                · refine aw_iload dX12_shelves_145 rfl ?_
                                  refine aw_iload dX12_shelves_147 rfl ?_
                                  refine aw_icmp_le (tgt := 172) dX12_shelves_149 (by decide) (fun c149 => ?_) (fun c149 => ?_)
                                  · have heqC : mShC y x M 0 S = S3 := (heq3.trans (if_pos c149))
                                    refine aw_iload dX12_shelves_172 rfl ?_
                                    refine aw_iload dX12_shelves_174 rfl ?_
                                    refine aw_icmp_le (tgt := 184) dX12_shelves_176 (by decide) (fun c176 => ?_) (fun c176 => ?_)
                                    · refine aw_iload dX12_shelves_184 rfl ?_
                                      refine aw_istore dX12_shelves_186 (by decide) ?_
                                      refine aw_aload_n dX12_shelves_188 rfl ?_
                                      refine aw_callV0e dX12_shelves_189 cmX12_nextBags cvX12_225 (mo_c0 hM) (Nat.le_of_ble_eq_true rfl) (tX12_nextBags hM (by exact hmk) hm6 hm1) (fun r n' h' hq => ?_)
                                      obtain ⟨rfl, rfl, hM, ho⟩ := hq
                                      have hF := hF.trans ho
                                      have hmk := mNx_hk hM hmk
                                      refine aw_istore dX12_shelves_192 (by decide) ?_
                                      refine aw_goto (tgt := 82) dX12_shelves_194 (by decide) ?_
                                      have hB1 : mShB S a c x M = S3 := (congrArg (fun z => mShC z x M 0 S) heq2).trans heqC
                                      have hX1 : mShX S a c x M = x := by unfold mShX; rw [show mShY S a c M 0 1048576 = y from heq2]; exact if_pos c176
                                      have hW1 := heqW
                                      have hE1 := hE
                                      unfold mShL at hW1
                                      unfold mShE at hE1
                                      rw [hB1, hX1] at hW1 hE1
                                      by_cases g : (mNx S3 M).1 = 0
                                      · exact aw_loc [0, 1, 2, 3, 4, 5] (ls2 := [(0, .ref m), (1, .int a), (2, .int c), (3, .int p), (4, .int x), (5, .int 0)]) (by rw [← g]; rfl) (keyE _ _ _ hmk hM hF (hW1.trans (if_pos g)))
                                      · exact aw_loc [0, 1, 2, 3, 4, 5] (ls2 := [(0, .ref m), (1, .int a), (2, .int c), (3, .int p), (4, .int x), (5, .int 1)]) (by rw [← mNx_1 g]; rfl) (ihW _ _ _ hmk hM hF (hW1.trans (if_neg g)) (hE1 g))
                                    · refine aw_iload dX12_shelves_179 rfl ?_
                                      refine aw_goto (tgt := 186) dX12_shelves_181 (by decide) ?_
                                      refine aw_istore dX12_shelves_186 (by decide) ?_
                                      refine aw_aload_n dX12_shelves_188 rfl ?_
                                      refine aw_callV0e dX12_shelves_189 cmX12_nextBags cvX12_225 (mo_c0 hM) (Nat.le_of_ble_eq_true rfl) (tX12_nextBags hM (by exact hmk) hm6 hm1) (fun r n' h' hq => ?_)
                                      obtain ⟨rfl, rfl, hM, ho⟩ := hq
                                      have hF := hF.trans ho
                                      have hmk := mNx_hk hM hmk
                                      refine aw_istore dX12_shelves_192 (by decide) ?_
                                      refine aw_goto (tgt := 82) dX12_shelves_194 (by decide) ?_
                                      have hB1 : mShB S a c x M = S3 := (congrArg (fun z => mShC z x M 0 S) heq2).trans heqC
                                      have hX1 : mShX S a c x M = y := by unfold mShX; rw [show mShY S a c M 0 1048576 = y from heq2]; exact if_neg c176
                                      have hW1 := heqW
                                      have hE1 := hE
                                      unfold mShL at hW1
                                      unfold mShE at hE1
                                      rw [hB1, hX1] at hW1 hE1
                                      by_cases g : (mNx S3 M).1 = 0
                                      · exact aw_loc [0, 1, 2, 3, 4, 5] (ls2 := [(0, .ref m), (1, .int a), (2, .int c), (3, .int p), (4, .int y), (5, .int 0)]) (by rw [← g]; rfl) (keyE _ _ _ hmk hM hF (hW1.trans (if_pos g)))
                                      · exact aw_loc [0, 1, 2, 3, 4, 5] (ls2 := [(0, .ref m), (1, .int a), (2, .int c), (3, .int p), (4, .int y), (5, .int 1)]) (by rw [← mNx_1 g]; rfl) (ihW _ _ _ hmk hM hF (hW1.trans (if_neg g)) (hE1 g))
                                  · refine aw_aload_n dX12_shelves_152 rfl ?_
                                    refine aw_get dX12_shelves_153 flX12_61 (mo_c0 hM) rfl ?_
                                    refine aw_iload dX12_shelves_156 rfl ?_
                                    refine aw_aload_n dX12_shelves_158 rfl ?_
                                    refine aw_get dX12_shelves_159 flX12_58 (mo_c0 hM) rfl ?_
                                    refine aw_iload dX12_shelves_162 rfl ?_
                                    refine aw_ialdN dX12_shelves_164 (mo_c17 hM) rfl (by omega) (by decide) ?_
                                    refine aw_iN_mo17 dX12_shelves_165 hM rfl (by omega) (fun h hM ho => ?_)
                                    have hF := hF.trans ho
                                    refine aw_inc (w := 1) dX12_shelves_166 rfl (by decide) (by decide) ?_
                                    refine aw_goto (tgt := 136) dX12_shelves_169 (by decide) ?_
                                    exact aw_loc [0, 1, 2, 3, 4, 6, 7] (ls2 := [(0, .ref m), (1, .int a), (2, .int c), (3, .int p), (4, .int x), (6, .int y), (7, .int (nI (j3 + 1)))]) (by first | (rw [nI_succ]; rfl) | rfl) (ih3 (j3 + 1) _ _ (by omega) (by exact hmk) hM hF (heq3.trans (if_neg c149)))
                            exact aw_loc [0, 1, 2, 3, 4, 6, 7] (ls2 := [(0, .ref m), (1, .int a), (2, .int c), (3, .int p), (4, .int x), (6, .int y), (7, .int (nI 0))]) rfl (key3 (M) 0 _ _ (by first | rfl | omega) hmk hM hF rfl)
                          · exact absurd ((le_M hmk hm6 (j := j2) (by omega)).mpr (by omega)) c100
                        | succ k2 ih2 =>
                          intro j2 y hj2  heq2
                          refine aw_iload dX12_shelves_94 rfl ?_
                          refine aw_aload_n dX12_shelves_96 rfl ?_
                          refine aw_get dX12_shelves_97 flX12_77 (mo_c0 hM) rfl ?_
                          refine aw_icmp_ge (tgt := 133) dX12_shelves_100 (by decide) (fun c100 => ?_) (fun c100 => ?_)
                          · exact absurd ((le_M hmk hm6 (j := j2) (by omega)).mp c100) (by omega)
                          · refine aw_iload dX12_shelves_103 rfl ?_
                            refine aw_aload_n dX12_shelves_105 rfl ?_
                            refine aw_iload dX12_shelves_106 rfl ?_
                            refine aw_iload_n dX12_shelves_108 rfl ?_
                            refine aw_iload_n dX12_shelves_109 rfl ?_
                            refine aw_aload_n dX12_shelves_110 rfl ?_
                            refine aw_get dX12_shelves_111 flX12_58 (mo_c0 hM) rfl ?_
                            refine aw_iload dX12_shelves_114 rfl ?_
                            refine aw_ialdN dX12_shelves_116 (mo_c17 hM) rfl (by omega) (by decide) ?_
                            refine aw_imul dX12_shelves_117 ?_
                            refine aw_iadd dX12_shelves_118 ?_
                            refine aw_callV2p dX12_shelves_119 cmX12_weight cvX12_186 (mo_c0 hM) (Nat.le_of_ble_eq_true rfl) (tX12_weight hM (vp_in_nI (by omega) (by decide))) ?_
                            refine aw_callS2p dX12_shelves_122 cmX12_lesser csX12_180 (Nat.le_of_ble_eq_true rfl) tX12_lesser ?_
                            refine aw_istore dX12_shelves_125 (by decide) ?_
                            refine aw_inc (w := 1) dX12_shelves_127 rfl (by decide) (by decide) ?_
                            refine aw_goto (tgt := 94) dX12_shelves_130 (by decide) ?_
                            exact aw_loc [0, 1, 2, 3, 4, 6, 7] (ls2 := [(0, .ref m), (1, .int a), (2, .int c), (3, .int p), (4, .int x), (6, .int _), (7, .int (nI (j2 + 1)))]) (by first | (rw [nI_succ]; rfl) | rfl) (ih2 (j2 + 1) _ (by omega)  heq2)
                      exact aw_loc [0, 1, 2, 3, 4, 6, 7] (ls2 := [(0, .ref m), (1, .int a), (2, .int c), (3, .int p), (4, .int x), (6, .int _), (7, .int (nI 0))]) rfl (key2 (M) 0 _ (by first | rfl | omega)  rfl)
                exact aw_loc [0, 1, 2, 3, 4, 5] (ls2 := [(0, .ref m), (1, .int a), (2, .int c), (3, .int p), (4, .int (-1)), (5, .int 1)]) rfl (keyW F _ _ _ hmk hM hF ((congrArg (fun z : sT => if z 30 0 ≤ 0 then (z, (-1 : Int32)) else mShL a c M F z (-1)) heq1).trans (if_neg c72)) ((show mShI M 0 S0 = S1 from heq1) ▸ hE (show ¬ mShI M 0 S0 30 0 ≤ 0 from (show mShI M 0 S0 = S1 from heq1) ▸ c72)))
            · exact absurd ((le_M hmk hm6 (j := j1) (by omega)).mpr (by omega)) c47
          | succ k1 ih1 =>
            intro j1 h S1 hj1 hmk hM hF heq1
            refine aw_iload dX12_shelves_41 rfl ?_
            refine aw_aload_n dX12_shelves_43 rfl ?_
            refine aw_get dX12_shelves_44 flX12_77 (mo_c0 hM) rfl ?_
            refine aw_icmp_ge (tgt := 65) dX12_shelves_47 (by decide) (fun c47 => ?_) (fun c47 => ?_)
            · exact absurd ((le_M hmk hm6 (j := j1) (by omega)).mp c47) (by omega)
            · refine aw_aload_n dX12_shelves_50 rfl ?_
              refine aw_get dX12_shelves_51 flX12_58 (mo_c0 hM) rfl ?_
              refine aw_iload dX12_shelves_54 rfl ?_
              refine aw_iload dX12_shelves_56 rfl ?_
              refine aw_iN_mo16 dX12_shelves_58 hM rfl (by omega) (fun h hM ho => ?_)
              have hF := hF.trans ho
              refine aw_inc (w := 1) dX12_shelves_59 rfl (by decide) (by decide) ?_
              refine aw_goto (tgt := 41) dX12_shelves_62 (by decide) ?_
              exact aw_loc [0, 1, 2, 3, 4] (ls2 := [(0, .ref m), (1, .int a), (2, .int c), (3, .int p), (4, .int (nI (j1 + 1)))]) (by first | (rw [nI_succ]; rfl) | rfl) (ih1 (j1 + 1) _ _ (by omega) (by exact hmk) hM hF heq1)
        exact aw_loc [0, 1, 2, 3, 4] (ls2 := [(0, .ref m), (1, .int a), (2, .int c), (3, .int p), (4, .int (nI 0))]) rfl (key1 (M) 0 _ _ (by first | rfl | omega) hm hM hF rfl)
      · refine aw_aload_n dX12_shelves_25 rfl ?_
        refine aw_iload_n dX12_shelves_26 rfl ?_
        refine aw_callV1p dX12_shelves_27 cmX12_isOne cvX12_108 (mo_c0 hM) (Nat.le_of_ble_eq_true rfl) (tX12_isOne hM) ?_
        refine aw_if_ne (tgt := 38) dX12_shelves_30 (by decide) (fun c30 => ?_) (fun c30 => ?_)
        · refine aw_iconst (v := 0) dX12_shelves_38 (by decide) ?_
          refine aw_istore dX12_shelves_39 (by decide) ?_
          have key1 : ∀ (k1 j1 : Nat) (h : ah) (S1 : sT), j1 + k1 = M → S1 30 0 = nI M → is_mo h m S1 L0 → ah_off h0 h m 21 → mShI M 0 S0 = mShI k1 j1 S1 → aw l E mX12_shelves (aw_Z E (mo_post n h0 m (mShelves S0 L0 M F a c p))) (d + 3) 0 0 41 [(0, .ref m), (1, .int a), (2, .int c), (3, .int p), (4, .int (nI j1))] [] n h := by
            intro k1
            induction k1 with
            | zero =>
              intro j1 h S1 hj1 hmk hM hF heq1
              refine aw_iload dX12_shelves_41 rfl ?_
              refine aw_aload_n dX12_shelves_43 rfl ?_
              refine aw_get dX12_shelves_44 flX12_77 (mo_c0 hM) rfl ?_
              refine aw_icmp_ge (tgt := 65) dX12_shelves_47 (by decide) (fun c47 => ?_) (fun c47 => ?_)
              · refine aw_iconst (v := -1) dX12_shelves_65 (by decide) ?_
                refine aw_istore dX12_shelves_66 (by decide) ?_
                refine aw_aload_n dX12_shelves_68 rfl ?_
                refine aw_get dX12_shelves_69 flX12_77 (mo_c0 hM) rfl ?_
                refine aw_if_le (tgt := 79) dX12_shelves_72 (by decide) (fun c72 => ?_) (fun c72 => ?_)
                · refine aw_iconst (v := 0) dX12_shelves_79 (by decide) ?_
                  refine aw_istore dX12_shelves_80 (by decide) ?_
                  have keyE : ∀ (h : ah) (S : sT) (x : Int32), S 30 0 = nI M → is_mo h m S L0 → ah_off h0 h m 21 → mShZ S0 a c M F = (S, x) → aw l E mX12_shelves (aw_Z E (mo_post n h0 m (mShelves S0 L0 M F a c p))) (d + 3) 0 0 82 [(0, .ref m), (1, .int a), (2, .int c), (3, .int p), (4, .int x), (5, .int 0)] [] n h := by
                    intro h S x hmk hM hF heqB
                    refine aw_iload dX12_shelves_82 rfl ?_
                    refine aw_if_eq (tgt := 197) dX12_shelves_84 (by decide) (fun c84 => ?_) (fun c84 => ?_)
                    · refine aw_iload_n dX12_shelves_197 rfl ?_
                      refine aw_iconst (v := -1) dX12_shelves_198 (by decide) ?_
                      refine aw_icmp_ne (tgt := 218) dX12_shelves_199 (by decide) (fun c199 => ?_) (fun c199 => absurd c199 c22)
                      refine aw_aload_n dX12_shelves_218 rfl ?_
                      refine aw_get dX12_shelves_219 flX12_61 (mo_c0 hM) rfl ?_
                      refine aw_iload_n dX12_shelves_222 rfl ?_
                      refine aw_iald dX12_shelves_223 (mo_c18 hM) (mIs_in c30 hm hm6) ?_
                      exact aw_iret dX12_shelves_224 rfl (mo_fin ((if_neg c7).trans ((if_neg c17).trans ((if_neg c22).trans ((if_neg c30).trans ((congrArg (fun z : sT × Int32 => mShA L0 z p) heqB).trans (if_neg c199)))))) hM hF)
                    · exact absurd rfl c84
                  exact aw_loc [0, 1, 2, 3, 4, 5] (ls2 := [(0, .ref m), (1, .int a), (2, .int c), (3, .int p), (4, .int (-1)), (5, .int 0)]) rfl (keyE _ _ _ hmk hM hF ((congrArg (fun z : sT => if z 30 0 ≤ 0 then (z, (-1 : Int32)) else mShL a c M F z (-1)) heq1).trans (if_pos c72)))
                · refine aw_iconst (v := 1) dX12_shelves_75 (by decide) ?_
                  refine aw_goto (tgt := 80) dX12_shelves_76 (by decide) ?_
                  refine aw_istore dX12_shelves_80 (by decide) ?_
                  have keyE : ∀ (h : ah) (S : sT) (x : Int32), S 30 0 = nI M → is_mo h m S L0 → ah_off h0 h m 21 → mShZ S0 a c M F = (S, x) → aw l E mX12_shelves (aw_Z E (mo_post n h0 m (mShelves S0 L0 M F a c p))) (d + 3) 0 0 82 [(0, .ref m), (1, .int a), (2, .int c), (3, .int p), (4, .int x), (5, .int 0)] [] n h := by
                    intro h S x hmk hM hF heqB
                    refine aw_iload dX12_shelves_82 rfl ?_
                    refine aw_if_eq (tgt := 197) dX12_shelves_84 (by decide) (fun c84 => ?_) (fun c84 => ?_)
                    · refine aw_iload_n dX12_shelves_197 rfl ?_
                      refine aw_iconst (v := -1) dX12_shelves_198 (by decide) ?_
                      refine aw_icmp_ne (tgt := 218) dX12_shelves_199 (by decide) (fun c199 => ?_) (fun c199 => absurd c199 c22)
                      refine aw_aload_n dX12_shelves_218 rfl ?_
                      refine aw_get dX12_shelves_219 flX12_61 (mo_c0 hM) rfl ?_
                      refine aw_iload_n dX12_shelves_222 rfl ?_
                      refine aw_iald dX12_shelves_223 (mo_c18 hM) (mIs_in c30 hm hm6) ?_
                      exact aw_iret dX12_shelves_224 rfl (mo_fin ((if_neg c7).trans ((if_neg c17).trans ((if_neg c22).trans ((if_neg c30).trans ((congrArg (fun z : sT × Int32 => mShA L0 z p) heqB).trans (if_neg c199)))))) hM hF)
                    · exact absurd rfl c84
                  have hm1 : 1 ≤ M := by
                    rcases Nat.eq_zero_or_pos M with e | e
                    · exact absurd (by rw [hmk, e]; decide) c72
                    · exact e
                  have keyW : ∀ (f : Nat) (h : ah) (S : sT) (x : Int32), S 30 0 = nI M → is_mo h m S L0 → ah_off h0 h m 21 → mShZ S0 a c M F = mShL a c M f S x → mShE a c M f S x → aw l E mX12_shelves (aw_Z E (mo_post n h0 m (mShelves S0 L0 M F a c p))) (d + 3) 0 0 82 [(0, .ref m), (1, .int a), (2, .int c), (3, .int p), (4, .int x), (5, .int 1)] [] n h := by
                    intro f
                    induction f with
                    | zero => intro h S x hmk hM hF heqW hE; exact False.elim hE
                    | succ f ihW =>
                      intro h S x hmk hM hF heqW hE
                      refine aw_iload dX12_shelves_82 rfl ?_
                      refine aw_if_eq (tgt := 197) dX12_shelves_84 (by decide) (fun c84 => ?_) (fun c84 => ?_)
                      · exact absurd c84 (by decide)
                      · refine aw_ldc dX12_shelves_87 kcX12_218 ?_
                        refine aw_istore dX12_shelves_89 (by decide) ?_
                        refine aw_iconst (v := 0) dX12_shelves_91 (by decide) ?_
                        refine aw_istore dX12_shelves_92 (by decide) ?_
                        have key2 : ∀ (k2 j2 : Nat) (y : Int32), j2 + k2 = M → mShY S a c M 0 1048576 = mShY S a c k2 j2 y → aw l E mX12_shelves (aw_Z E (mo_post n h0 m (mShelves S0 L0 M F a c p))) (d + 3) 0 0 94 [(0, .ref m), (1, .int a), (2, .int c), (3, .int p), (4, .int x), (6, .int y), (7, .int (nI j2))] [] n h := by
                          intro k2
                          induction k2 with
                          | zero =>
                            intro j2 y hj2  heq2
                            refine aw_iload dX12_shelves_94 rfl ?_
                            refine aw_aload_n dX12_shelves_96 rfl ?_
                            refine aw_get dX12_shelves_97 flX12_77 (mo_c0 hM) rfl ?_
                            refine aw_icmp_ge (tgt := 133) dX12_shelves_100 (by decide) (fun c100 => ?_) (fun c100 => ?_)
                            · refine aw_iconst (v := 0) dX12_shelves_133 (by decide) ?_
                              refine aw_istore dX12_shelves_134 (by decide) ?_
                              have key3 : ∀ (k3 j3 : Nat) (h : ah) (S3 : sT), j3 + k3 = M → S3 30 0 = nI M → is_mo h m S3 L0 → ah_off h0 h m 21 → mShC y x M 0 S = mShC y x k3 j3 S3 → aw l E mX12_shelves (aw_Z E (mo_post n h0 m (mShelves S0 L0 M F a c p))) (d + 3) 0 0 136 [(0, .ref m), (1, .int a), (2, .int c), (3, .int p), (4, .int x), (6, .int y), (7, .int (nI j3))] [] n h := by
                                intro k3
                                induction k3 with
                                | zero =>
                                  intro j3 h S3 hj3 hmk hM hF heq3
                                  refine aw_iload dX12_shelves_136 rfl ?_
                                  refine aw_aload_n dX12_shelves_138 rfl ?_
                                  refine aw_get dX12_shelves_139 flX12_77 (mo_c0 hM) rfl ?_
                                  refine aw_icmp_ge (tgt := 172) dX12_shelves_142 (by decide) (fun c142 => ?_) (fun c142 => ?_)
                                  · have heqC : mShC y x M 0 S = S3 := heq3
                                    refine aw_iload dX12_shelves_172 rfl ?_
                                    refine aw_iload dX12_shelves_174 rfl ?_
                                    refine aw_icmp_le (tgt := 184) dX12_shelves_176 (by decide) (fun c176 => ?_) (fun c176 => ?_)
                                    · refine aw_iload dX12_shelves_184 rfl ?_
                                      refine aw_istore dX12_shelves_186 (by decide) ?_
                                      refine aw_aload_n dX12_shelves_188 rfl ?_
                                      refine aw_callV0e dX12_shelves_189 cmX12_nextBags cvX12_225 (mo_c0 hM) (Nat.le_of_ble_eq_true rfl) (tX12_nextBags hM (by exact hmk) hm6 hm1) (fun r n' h' hq => ?_)
                                      obtain ⟨rfl, rfl, hM, ho⟩ := hq
                                      have hF := hF.trans ho
                                      have hmk := mNx_hk hM hmk
                                      refine aw_istore dX12_shelves_192 (by decide) ?_
                                      refine aw_goto (tgt := 82) dX12_shelves_194 (by decide) ?_
                                      have hB1 : mShB S a c x M = S3 := (congrArg (fun z => mShC z x M 0 S) heq2).trans heqC
                                      have hX1 : mShX S a c x M = x := by unfold mShX; rw [show mShY S a c M 0 1048576 = y from heq2]; exact if_pos c176
                                      have hW1 := heqW
                                      have hE1 := hE
                                      unfold mShL at hW1
                                      unfold mShE at hE1
                                      rw [hB1, hX1] at hW1 hE1
                                      by_cases g : (mNx S3 M).1 = 0
                                      · exact aw_loc [0, 1, 2, 3, 4, 5] (ls2 := [(0, .ref m), (1, .int a), (2, .int c), (3, .int p), (4, .int x), (5, .int 0)]) (by rw [← g]; rfl) (keyE _ _ _ hmk hM hF (hW1.trans (if_pos g)))
                                      · exact aw_loc [0, 1, 2, 3, 4, 5] (ls2 := [(0, .ref m), (1, .int a), (2, .int c), (3, .int p), (4, .int x), (5, .int 1)]) (by rw [← mNx_1 g]; rfl) (ihW _ _ _ hmk hM hF (hW1.trans (if_neg g)) (hE1 g))
                                    · refine aw_iload dX12_shelves_179 rfl ?_
                                      refine aw_goto (tgt := 186) dX12_shelves_181 (by decide) ?_
                                      refine aw_istore dX12_shelves_186 (by decide) ?_
                                      refine aw_aload_n dX12_shelves_188 rfl ?_
                                      refine aw_callV0e dX12_shelves_189 cmX12_nextBags cvX12_225 (mo_c0 hM) (Nat.le_of_ble_eq_true rfl) (tX12_nextBags hM (by exact hmk) hm6 hm1) (fun r n' h' hq => ?_)
                                      obtain ⟨rfl, rfl, hM, ho⟩ := hq
                                      have hF := hF.trans ho
                                      have hmk := mNx_hk hM hmk
                                      refine aw_istore dX12_shelves_192 (by decide) ?_
                                      refine aw_goto (tgt := 82) dX12_shelves_194 (by decide) ?_
                                      have hB1 : mShB S a c x M = S3 := (congrArg (fun z => mShC z x M 0 S) heq2).trans heqC
                                      have hX1 : mShX S a c x M = y := by unfold mShX; rw [show mShY S a c M 0 1048576 = y from heq2]; exact if_neg c176
                                      have hW1 := heqW
                                      have hE1 := hE
                                      unfold mShL at hW1
                                      unfold mShE at hE1
                                      rw [hB1, hX1] at hW1 hE1
                                      by_cases g : (mNx S3 M).1 = 0
                                      · exact aw_loc [0, 1, 2, 3, 4, 5] (ls2 := [(0, .ref m), (1, .int a), (2, .int c), (3, .int p), (4, .int y), (5, .int 0)]) (by rw [← g]; rfl) (keyE _ _ _ hmk hM hF (hW1.trans (if_pos g)))
                                      · exact aw_loc [0, 1, 2, 3, 4, 5] (ls2 := [(0, .ref m), (1, .int a), (2, .int c), (3, .int p), (4, .int y), (5, .int 1)]) (by rw [← mNx_1 g]; rfl) (ihW _ _ _ hmk hM hF (hW1.trans (if_neg g)) (hE1 g))
                                  · exact absurd ((le_M hmk hm6 (j := j3) (by omega)).mpr (by omega)) c142
                                | succ k3 ih3 =>
                                  intro j3 h S3 hj3 hmk hM hF heq3
                                  refine aw_iload dX12_shelves_136 rfl ?_
                                  refine aw_aload_n dX12_shelves_138 rfl ?_
                                  refine aw_get dX12_shelves_139 flX12_77 (mo_c0 hM) rfl ?_
                                  refine aw_icmp_ge (tgt := 172) dX12_shelves_142 (by decide) (fun c142 => ?_) (fun c142 => ?_)
                                  · exact absurd ((le_M hmk hm6 (j := j3) (by omega)).mp c142) (by omega)
                                  · refine aw_iload dX12_shelves_145 rfl ?_
                                    refine aw_iload dX12_shelves_147 rfl ?_
                                    refine aw_icmp_le (tgt := 172) dX12_shelves_149 (by decide) (fun c149 => ?_) (fun c149 => ?_)
                                    · have heqC : mShC y x M 0 S = S3 := (heq3.trans (if_pos c149))
                                      refine aw_iload dX12_shelves_172 rfl ?_
                                      refine aw_iload dX12_shelves_174 rfl ?_
                                      refine aw_icmp_le (tgt := 184) dX12_shelves_176 (by decide) (fun c176 => ?_) (fun c176 => ?_)
                                      · refine aw_iload dX12_shelves_184 rfl ?_
                                        refine aw_istore dX12_shelves_186 (by decide) ?_
                                        refine aw_aload_n dX12_shelves_188 rfl ?_
                                        refine aw_callV0e dX12_shelves_189 cmX12_nextBags cvX12_225 (mo_c0 hM) (Nat.le_of_ble_eq_true rfl) (tX12_nextBags hM (by exact hmk) hm6 hm1) (fun r n' h' hq => ?_)
                                        obtain ⟨rfl, rfl, hM, ho⟩ := hq
                                        have hF := hF.trans ho
                                        have hmk := mNx_hk hM hmk
                                        refine aw_istore dX12_shelves_192 (by decide) ?_
                                        refine aw_goto (tgt := 82) dX12_shelves_194 (by decide) ?_
                                        have hB1 : mShB S a c x M = S3 := (congrArg (fun z => mShC z x M 0 S) heq2).trans heqC
                                        have hX1 : mShX S a c x M = x := by unfold mShX; rw [show mShY S a c M 0 1048576 = y from heq2]; exact if_pos c176
                                        have hW1 := heqW
                                        have hE1 := hE
                                        unfold mShL at hW1
                                        unfold mShE at hE1
                                        rw [hB1, hX1] at hW1 hE1
                                        by_cases g : (mNx S3 M).1 = 0
                                        · exact aw_loc [0, 1, 2, 3, 4, 5] (ls2 := [(0, .ref m), (1, .int a), (2, .int c), (3, .int p), (4, .int x), (5, .int 0)]) (by rw [← g]; rfl) (keyE _ _ _ hmk hM hF (hW1.trans (if_pos g)))
                                        · exact aw_loc [0, 1, 2, 3, 4, 5] (ls2 := [(0, .ref m), (1, .int a), (2, .int c), (3, .int p), (4, .int x), (5, .int 1)]) (by rw [← mNx_1 g]; rfl) (ihW _ _ _ hmk hM hF (hW1.trans (if_neg g)) (hE1 g))
                                      · refine aw_iload dX12_shelves_179 rfl ?_
                                        refine aw_goto (tgt := 186) dX12_shelves_181 (by decide) ?_
                                        refine aw_istore dX12_shelves_186 (by decide) ?_
                                        refine aw_aload_n dX12_shelves_188 rfl ?_
                                        refine aw_callV0e dX12_shelves_189 cmX12_nextBags cvX12_225 (mo_c0 hM) (Nat.le_of_ble_eq_true rfl) (tX12_nextBags hM (by exact hmk) hm6 hm1) (fun r n' h' hq => ?_)
                                        obtain ⟨rfl, rfl, hM, ho⟩ := hq
                                        have hF := hF.trans ho
                                        have hmk := mNx_hk hM hmk
                                        refine aw_istore dX12_shelves_192 (by decide) ?_
                                        refine aw_goto (tgt := 82) dX12_shelves_194 (by decide) ?_
                                        have hB1 : mShB S a c x M = S3 := (congrArg (fun z => mShC z x M 0 S) heq2).trans heqC
                                        have hX1 : mShX S a c x M = y := by unfold mShX; rw [show mShY S a c M 0 1048576 = y from heq2]; exact if_neg c176
                                        have hW1 := heqW
                                        have hE1 := hE
                                        unfold mShL at hW1
                                        unfold mShE at hE1
                                        rw [hB1, hX1] at hW1 hE1
                                        by_cases g : (mNx S3 M).1 = 0
                                        · exact aw_loc [0, 1, 2, 3, 4, 5] (ls2 := [(0, .ref m), (1, .int a), (2, .int c), (3, .int p), (4, .int y), (5, .int 0)]) (by rw [← g]; rfl) (keyE _ _ _ hmk hM hF (hW1.trans (if_pos g)))
                                        · exact aw_loc [0, 1, 2, 3, 4, 5] (ls2 := [(0, .ref m), (1, .int a), (2, .int c), (3, .int p), (4, .int y), (5, .int 1)]) (by rw [← mNx_1 g]; rfl) (ihW _ _ _ hmk hM hF (hW1.trans (if_neg g)) (hE1 g))
                                    · refine aw_aload_n dX12_shelves_152 rfl ?_
                                      refine aw_get dX12_shelves_153 flX12_61 (mo_c0 hM) rfl ?_
                                      refine aw_iload dX12_shelves_156 rfl ?_
                                      refine aw_aload_n dX12_shelves_158 rfl ?_
                                      refine aw_get dX12_shelves_159 flX12_58 (mo_c0 hM) rfl ?_
                                      refine aw_iload dX12_shelves_162 rfl ?_
                                      refine aw_ialdN dX12_shelves_164 (mo_c17 hM) rfl (by omega) (by decide) ?_
                                      refine aw_iN_mo17 dX12_shelves_165 hM rfl (by omega) (fun h hM ho => ?_)
                                      have hF := hF.trans ho
                                      refine aw_inc (w := 1) dX12_shelves_166 rfl (by decide) (by decide) ?_
                                      refine aw_goto (tgt := 136) dX12_shelves_169 (by decide) ?_
                                      exact aw_loc [0, 1, 2, 3, 4, 6, 7] (ls2 := [(0, .ref m), (1, .int a), (2, .int c), (3, .int p), (4, .int x), (6, .int y), (7, .int (nI (j3 + 1)))]) (by first | (rw [nI_succ]; rfl) | rfl) (ih3 (j3 + 1) _ _ (by omega) (by exact hmk) hM hF (heq3.trans (if_neg c149)))
                              exact aw_loc [0, 1, 2, 3, 4, 6, 7] (ls2 := [(0, .ref m), (1, .int a), (2, .int c), (3, .int p), (4, .int x), (6, .int y), (7, .int (nI 0))]) rfl (key3 (M) 0 _ _ (by first | rfl | omega) hmk hM hF rfl)
                            · exact absurd ((le_M hmk hm6 (j := j2) (by omega)).mpr (by omega)) c100
                          | succ k2 ih2 =>
                            intro j2 y hj2  heq2
                            refine aw_iload dX12_shelves_94 rfl ?_
                            refine aw_aload_n dX12_shelves_96 rfl ?_
                            refine aw_get dX12_shelves_97 flX12_77 (mo_c0 hM) rfl ?_
                            refine aw_icmp_ge (tgt := 133) dX12_shelves_100 (by decide) (fun c100 => ?_) (fun c100 => ?_)
                            · exact absurd ((le_M hmk hm6 (j := j2) (by omega)).mp c100) (by omega)
                            · refine aw_iload dX12_shelves_103 rfl ?_
                              refine aw_aload_n dX12_shelves_105 rfl ?_
                              refine aw_iload dX12_shelves_106 rfl ?_
                              refine aw_iload_n dX12_shelves_108 rfl ?_
                              refine aw_iload_n dX12_shelves_109 rfl ?_
                              refine aw_aload_n dX12_shelves_110 rfl ?_
                              refine aw_get dX12_shelves_111 flX12_58 (mo_c0 hM) rfl ?_
                              refine aw_iload dX12_shelves_114 rfl ?_
                              refine aw_ialdN dX12_shelves_116 (mo_c17 hM) rfl (by omega) (by decide) ?_
                              refine aw_imul dX12_shelves_117 ?_
                              refine aw_iadd dX12_shelves_118 ?_
                              refine aw_callV2p dX12_shelves_119 cmX12_weight cvX12_186 (mo_c0 hM) (Nat.le_of_ble_eq_true rfl) (tX12_weight hM (vp_in_nI (by omega) (by decide))) ?_
                              refine aw_callS2p dX12_shelves_122 cmX12_lesser csX12_180 (Nat.le_of_ble_eq_true rfl) tX12_lesser ?_
                              refine aw_istore dX12_shelves_125 (by decide) ?_
                              refine aw_inc (w := 1) dX12_shelves_127 rfl (by decide) (by decide) ?_
                              refine aw_goto (tgt := 94) dX12_shelves_130 (by decide) ?_
                              exact aw_loc [0, 1, 2, 3, 4, 6, 7] (ls2 := [(0, .ref m), (1, .int a), (2, .int c), (3, .int p), (4, .int x), (6, .int _), (7, .int (nI (j2 + 1)))]) (by first | (rw [nI_succ]; rfl) | rfl) (ih2 (j2 + 1) _ (by omega)  heq2)
                        exact aw_loc [0, 1, 2, 3, 4, 6, 7] (ls2 := [(0, .ref m), (1, .int a), (2, .int c), (3, .int p), (4, .int x), (6, .int _), (7, .int (nI 0))]) rfl (key2 (M) 0 _ (by first | rfl | omega)  rfl)
                  exact aw_loc [0, 1, 2, 3, 4, 5] (ls2 := [(0, .ref m), (1, .int a), (2, .int c), (3, .int p), (4, .int (-1)), (5, .int 1)]) rfl (keyW F _ _ _ hmk hM hF ((congrArg (fun z : sT => if z 30 0 ≤ 0 then (z, (-1 : Int32)) else mShL a c M F z (-1)) heq1).trans (if_neg c72)) ((show mShI M 0 S0 = S1 from heq1) ▸ hE (show ¬ mShI M 0 S0 30 0 ≤ 0 from (show mShI M 0 S0 = S1 from heq1) ▸ c72)))
              · exact absurd ((le_M hmk hm6 (j := j1) (by omega)).mpr (by omega)) c47
            | succ k1 ih1 =>
              intro j1 h S1 hj1 hmk hM hF heq1
              refine aw_iload dX12_shelves_41 rfl ?_
              refine aw_aload_n dX12_shelves_43 rfl ?_
              refine aw_get dX12_shelves_44 flX12_77 (mo_c0 hM) rfl ?_
              refine aw_icmp_ge (tgt := 65) dX12_shelves_47 (by decide) (fun c47 => ?_) (fun c47 => ?_)
              · exact absurd ((le_M hmk hm6 (j := j1) (by omega)).mp c47) (by omega)
              · refine aw_aload_n dX12_shelves_50 rfl ?_
                refine aw_get dX12_shelves_51 flX12_58 (mo_c0 hM) rfl ?_
                refine aw_iload dX12_shelves_54 rfl ?_
                refine aw_iload dX12_shelves_56 rfl ?_
                refine aw_iN_mo16 dX12_shelves_58 hM rfl (by omega) (fun h hM ho => ?_)
                have hF := hF.trans ho
                refine aw_inc (w := 1) dX12_shelves_59 rfl (by decide) (by decide) ?_
                refine aw_goto (tgt := 41) dX12_shelves_62 (by decide) ?_
                exact aw_loc [0, 1, 2, 3, 4] (ls2 := [(0, .ref m), (1, .int a), (2, .int c), (3, .int p), (4, .int (nI (j1 + 1)))]) (by first | (rw [nI_succ]; rfl) | rfl) (ih1 (j1 + 1) _ _ (by omega) (by exact hmk) hM hF heq1)
          exact aw_loc [0, 1, 2, 3, 4] (ls2 := [(0, .ref m), (1, .int a), (2, .int c), (3, .int p), (4, .int (nI 0))]) rfl (key1 (M) 0 _ _ (by first | rfl | omega) hm hM hF rfl)
        · refine aw_aload_n dX12_shelves_33 rfl ?_
          refine aw_callV0e dX12_shelves_34 cmX12_ten cvX12_219 (mo_c0 hM) (Nat.le_of_ble_eq_true rfl) (tX12_ten hM) (fun r n' h' hq => ?_)
          obtain ⟨rfl, rfl, hM, ho⟩ := hq
          have hF := hF.trans ho
          exact aw_iret dX12_shelves_37 rfl (mo_fin ((((if_neg c7).trans (if_neg c17)).trans (if_neg c22)).trans (if_pos c30)) hM hF)
set_option maxHeartbeats 1000000 in
set_option maxRecDepth 100000 in
theorem tX12_image {l : Launch} {E : aw_E} {d n m : Nat} {h0 : ah} {S0 : sT} {L0 : Nat → Int64} (hM : is_mo h0 m S0 L0) {i : Int32} : am l E mX12_image (d + 1) 0 0 [.ref m, .int i] n h0 (mo_post n h0 m (mImage S0 L0 i)) := by
  refine am_of (by decide +kernel) (Nat.le_of_ble_eq_true rfl) ?_
  have hF : ah_off h0 h0 m 21 := ah_off.rf
  refine aw_iload_n dX12_image_0 rfl ?_
  refine aw_iconst (v := 0) dX12_image_1 (by decide) ?_
  refine aw_iconst (v := 1) dX12_image_2 (by decide) ?_
  refine aw_callS3p dX12_image_3 cmX12_in csX12_93 (Nat.le_of_ble_eq_true rfl) tX12_in ?_
  refine aw_if_ne (tgt := 14) dX12_image_6 (by decide) (fun c6 => ?_) (fun c6 => ?_)
  · obtain ⟨a, ha, rfl⟩ := iW01 c6
    refine aw_sipush (v := 180) dX12_image_14 (by decide) ?_
    refine aw_iload_n dX12_image_17 rfl ?_
    refine aw_imul dX12_image_18 ?_
    rw [show (180 : Int32) * nI a = nI (180 * a) by rw [← pk_mul]; rfl]
    refine aw_istore_n dX12_image_19 (by decide) ?_
    refine aw_aload_n dX12_image_20 rfl ?_
    refine aw_get dX12_image_21 flX12_71 (mo_c0 hM) rfl ?_
    refine aw_iload_n dX12_image_24 rfl ?_
    refine aw_iconst (v := 1) dX12_image_25 (by decide) ?_
    refine aw_iN_mo19 dX12_image_26 hM rfl (by omega) (fun h hM ho => ?_)
    have hF := hF.trans ho
    refine aw_aload_n dX12_image_27 rfl ?_
    refine aw_get dX12_image_28 flX12_68 (mo_c0 hM) rfl ?_
    refine aw_iload_n dX12_image_31 rfl ?_
    refine aw_aload_n dX12_image_32 rfl ?_
    refine aw_get dX12_image_33 flX12_77 (mo_c0 hM) rfl ?_
    refine aw_iN_mo18 dX12_image_36 hM rfl (by omega) (fun h hM ho => ?_)
    have hF := hF.trans ho
    refine aw_aload_n dX12_image_37 rfl ?_
    refine aw_get dX12_image_38 flX12_68 (mo_c0 hM) rfl ?_
    refine aw_iload_n dX12_image_41 rfl ?_
    refine aw_iconst (v := 1) dX12_image_42 (by decide) ?_
    refine aw_iadd dX12_image_43 ?_
    refine aw_aload_n dX12_image_44 rfl ?_
    refine aw_get dX12_image_45 flX12_87 (mo_c0 hM) rfl ?_
    refine aw_iN_mo18 dX12_image_48 hM (show nI (180 * a) + 1 = nI (180 * a + 1) by rw [← nI_add]; rfl) (by omega) (fun h hM ho => ?_)
    have hF := hF.trans ho
    refine aw_aload_n dX12_image_49 rfl ?_
    refine aw_get dX12_image_50 flX12_68 (mo_c0 hM) rfl ?_
    refine aw_iload_n dX12_image_53 rfl ?_
    refine aw_iconst (v := 2) dX12_image_54 (by decide) ?_
    refine aw_iadd dX12_image_55 ?_
    refine aw_aload_n dX12_image_56 rfl ?_
    refine aw_get dX12_image_57 flX12_90 (mo_c0 hM) rfl ?_
    refine aw_iN_mo18 dX12_image_60 hM (show nI (180 * a) + 2 = nI (180 * a + 2) by rw [← nI_add]; rfl) (by omega) (fun h hM ho => ?_)
    have hF := hF.trans ho
    refine aw_aload_n dX12_image_61 rfl ?_
    refine aw_aload_n dX12_image_62 rfl ?_
    refine aw_get dX12_image_63 flX12_68 (mo_c0 hM) rfl ?_
    refine aw_iload_n dX12_image_66 rfl ?_
    refine aw_iconst (v := 3) dX12_image_67 (by decide) ?_
    refine aw_iadd dX12_image_68 ?_
    refine aw_callV2e dX12_image_69 cmX12_lays cvX12_189 (mo_c0 hM) (Nat.le_of_ble_eq_true rfl) (tX12_lays18 hM (a := 180 * a + 3) (show nI (180 * a) + 3 = nI (180 * a + 3) by rw [← nI_add]; rfl) (by omega)) (fun r n' h' hq => ?_)
    obtain ⟨rfl, rfl, hM, ho⟩ := hq
    have hF := hF.trans ho
    refine aw_iconst (v := 0) dX12_image_72 (by decide) ?_
    refine aw_istore_n dX12_image_73 (by decide) ?_
    have key1 : ∀ (k1 j1 : Nat) (h : ah) (S : sT), j1 + k1 = 6 → is_mo h m S L0 → ah_off h0 h m 21 → mIm6 a 6 0 (mImH a S0) = mIm6 a k1 j1 S → aw l E mX12_image (aw_Z E (mo_post n h0 m (mImage S0 L0 (nI a)))) (d + 1) 0 0 74 [(0, .ref m), (2, .int (nI (180 * a))), (3, .int (nI j1))] [] n h := by
      intro k1
      induction k1 with
      | zero =>
        intro j1 h S hj1 hM hF heq1
        refine aw_iload_n dX12_image_74 rfl ?_
        refine aw_bipush (v := 6) dX12_image_75 (by decide) ?_
        refine aw_icmp_ge (tgt := 205) dX12_image_77 (by decide) (fun c77 => ?_) (fun c77 => ?_)
        · refine aw_iconst (v := 0) dX12_image_205 (by decide) ?_
          refine aw_istore_n dX12_image_206 (by decide) ?_
          have key2 : ∀ (k2 j2 : Nat) (h : ah) (S : sT), j2 + k2 = 112 → is_mo h m S L0 → ah_off h0 h m 21 → mImg S0 a = mImL a k2 j2 S → aw l E mX12_image (aw_Z E (mo_post n h0 m (mImage S0 L0 (nI a)))) (d + 1) 0 0 207 [(0, .ref m), (2, .int (nI (180 * a))), (3, .int (nI j2))] [] n h := by
            intro k2
            induction k2 with
            | zero =>
              intro j2 h S hj2 hM hF heq2
              refine aw_iload_n dX12_image_207 rfl ?_
              refine aw_bipush (v := 112) dX12_image_208 (by decide) ?_
              refine aw_icmp_ge (tgt := 236) dX12_image_210 (by decide) (fun c210 => ?_) (fun c210 => ?_)
              · refine aw_iconst (v := 1) dX12_image_236 (by decide) ?_
                exact aw_iret dX12_image_237 rfl (mo_fin ((mImage_a S0 L0 ha).trans (congrArg (fun z : sT => ((1 : Int32), z, L0)) heq2)) hM hF)
              · exact absurd ((nI_leI (a := 112) (b := j2) (by omega) (by omega)).mpr (by omega)) c210
            | succ k2 ih2 =>
              intro j2 h S hj2 hM hF heq2
              refine aw_iload_n dX12_image_207 rfl ?_
              refine aw_bipush (v := 112) dX12_image_208 (by decide) ?_
              refine aw_icmp_ge (tgt := 236) dX12_image_210 (by decide) (fun c210 => ?_) (fun c210 => ?_)
              · exact absurd ((nI_leI (a := 112) (b := j2) (by omega) (by omega)).mp c210) (by omega)
              · refine aw_aload_n dX12_image_213 rfl ?_
                refine aw_get dX12_image_214 flX12_68 (mo_c0 hM) rfl ?_
                refine aw_iload_n dX12_image_217 rfl ?_
                refine aw_bipush (v := 59) dX12_image_218 (by decide) ?_
                refine aw_iadd dX12_image_220 ?_
                refine aw_iload_n dX12_image_221 rfl ?_
                refine aw_iadd dX12_image_222 ?_
                refine aw_aload_n dX12_image_223 rfl ?_
                refine aw_get dX12_image_224 flX12_46 (mo_c0 hM) rfl ?_
                refine aw_iload_n dX12_image_227 rfl ?_
                refine aw_ialdN dX12_image_228 (mo_c13 hM) rfl (by omega) (by decide) ?_
                refine aw_iN_mo18 dX12_image_229 hM (show nI (180 * a) + 59 + nI j2 = nI (180 * a + 59 + j2) by rw [← nI_add, ← nI_add]; rfl) (by omega) (fun h hM ho => ?_)
                have hF := hF.trans ho
                refine aw_inc (w := 1) dX12_image_230 rfl (by decide) (by decide) ?_
                refine aw_goto (tgt := 207) dX12_image_233 (by decide) ?_
                exact aw_loc [0, 2, 3] (ls2 := [(0, .ref m), (2, .int (nI (180 * a))), (3, .int (nI (j2 + 1)))]) (by first | (rw [nI_succ]; rfl) | rfl) (ih2 (j2 + 1) _ _ (by omega) hM hF heq2)
          exact aw_loc [0, 2, 3] (ls2 := [(0, .ref m), (2, .int (nI (180 * a))), (3, .int (nI 0))]) rfl (key2 (112) 0 _ _ (by first | rfl | omega) hM hF (congrArg (mImL a 112 0) heq1))
        · exact absurd ((nI_leI (a := 6) (b := j1) (by omega) (by omega)).mpr (by omega)) c77
      | succ k1 ih1 =>
        intro j1 h S hj1 hM hF heq1
        refine aw_iload_n dX12_image_74 rfl ?_
        refine aw_bipush (v := 6) dX12_image_75 (by decide) ?_
        refine aw_icmp_ge (tgt := 205) dX12_image_77 (by decide) (fun c77 => ?_) (fun c77 => ?_)
        · exact absurd ((nI_leI (a := 6) (b := j1) (by omega) (by omega)).mp c77) (by omega)
        · refine aw_aload_n dX12_image_80 rfl ?_
          refine aw_get dX12_image_81 flX12_68 (mo_c0 hM) rfl ?_
          refine aw_iload_n dX12_image_84 rfl ?_
          refine aw_bipush (v := 17) dX12_image_85 (by decide) ?_
          refine aw_iadd dX12_image_87 ?_
          refine aw_iload_n dX12_image_88 rfl ?_
          refine aw_iadd dX12_image_89 ?_
          refine aw_aload_n dX12_image_90 rfl ?_
          refine aw_get dX12_image_91 flX12_13 (mo_c0 hM) rfl ?_
          refine aw_iload_n dX12_image_94 rfl ?_
          refine aw_ialdN dX12_image_95 (mo_c2 hM) rfl (by omega) (by decide) ?_
          refine aw_iN_mo18 dX12_image_96 hM (show nI (180 * a) + 17 + nI j1 = nI (180 * a + 17 + j1) by rw [← nI_add, ← nI_add]; rfl) (by omega) (fun h hM ho => ?_)
          have hF := hF.trans ho
          refine aw_aload_n dX12_image_97 rfl ?_
          refine aw_get dX12_image_98 flX12_68 (mo_c0 hM) rfl ?_
          refine aw_iload_n dX12_image_101 rfl ?_
          refine aw_bipush (v := 23) dX12_image_102 (by decide) ?_
          refine aw_iadd dX12_image_104 ?_
          refine aw_iload_n dX12_image_105 rfl ?_
          refine aw_iadd dX12_image_106 ?_
          refine aw_aload_n dX12_image_107 rfl ?_
          refine aw_get dX12_image_108 flX12_22 (mo_c0 hM) rfl ?_
          refine aw_iload_n dX12_image_111 rfl ?_
          refine aw_ialdN dX12_image_112 (mo_c5 hM) rfl (by omega) (by decide) ?_
          refine aw_iN_mo18 dX12_image_113 hM (show nI (180 * a) + 23 + nI j1 = nI (180 * a + 23 + j1) by rw [← nI_add, ← nI_add]; rfl) (by omega) (fun h hM ho => ?_)
          have hF := hF.trans ho
          refine aw_aload_n dX12_image_114 rfl ?_
          refine aw_get dX12_image_115 flX12_68 (mo_c0 hM) rfl ?_
          refine aw_iload_n dX12_image_118 rfl ?_
          refine aw_bipush (v := 29) dX12_image_119 (by decide) ?_
          refine aw_iadd dX12_image_121 ?_
          refine aw_iload_n dX12_image_122 rfl ?_
          refine aw_iadd dX12_image_123 ?_
          refine aw_aload_n dX12_image_124 rfl ?_
          refine aw_get dX12_image_125 flX12_25 (mo_c0 hM) rfl ?_
          refine aw_iload_n dX12_image_128 rfl ?_
          refine aw_ialdN dX12_image_129 (mo_c6 hM) rfl (by omega) (by decide) ?_
          refine aw_iN_mo18 dX12_image_130 hM (show nI (180 * a) + 29 + nI j1 = nI (180 * a + 29 + j1) by rw [← nI_add, ← nI_add]; rfl) (by omega) (fun h hM ho => ?_)
          have hF := hF.trans ho
          refine aw_aload_n dX12_image_131 rfl ?_
          refine aw_get dX12_image_132 flX12_68 (mo_c0 hM) rfl ?_
          refine aw_iload_n dX12_image_135 rfl ?_
          refine aw_bipush (v := 35) dX12_image_136 (by decide) ?_
          refine aw_iadd dX12_image_138 ?_
          refine aw_iload_n dX12_image_139 rfl ?_
          refine aw_iadd dX12_image_140 ?_
          refine aw_aload_n dX12_image_141 rfl ?_
          refine aw_get dX12_image_142 flX12_28 (mo_c0 hM) rfl ?_
          refine aw_iload_n dX12_image_145 rfl ?_
          refine aw_ialdN dX12_image_146 (mo_c7 hM) rfl (by omega) (by decide) ?_
          refine aw_iN_mo18 dX12_image_147 hM (show nI (180 * a) + 35 + nI j1 = nI (180 * a + 35 + j1) by rw [← nI_add, ← nI_add]; rfl) (by omega) (fun h hM ho => ?_)
          have hF := hF.trans ho
          refine aw_aload_n dX12_image_148 rfl ?_
          refine aw_get dX12_image_149 flX12_68 (mo_c0 hM) rfl ?_
          refine aw_iload_n dX12_image_152 rfl ?_
          refine aw_bipush (v := 41) dX12_image_153 (by decide) ?_
          refine aw_iadd dX12_image_155 ?_
          refine aw_iload_n dX12_image_156 rfl ?_
          refine aw_iadd dX12_image_157 ?_
          refine aw_aload_n dX12_image_158 rfl ?_
          refine aw_get dX12_image_159 flX12_31 (mo_c0 hM) rfl ?_
          refine aw_iload_n dX12_image_162 rfl ?_
          refine aw_ialdN dX12_image_163 (mo_c8 hM) rfl (by omega) (by decide) ?_
          refine aw_iN_mo18 dX12_image_164 hM (show nI (180 * a) + 41 + nI j1 = nI (180 * a + 41 + j1) by rw [← nI_add, ← nI_add]; rfl) (by omega) (fun h hM ho => ?_)
          have hF := hF.trans ho
          refine aw_aload_n dX12_image_165 rfl ?_
          refine aw_get dX12_image_166 flX12_68 (mo_c0 hM) rfl ?_
          refine aw_iload_n dX12_image_169 rfl ?_
          refine aw_bipush (v := 47) dX12_image_170 (by decide) ?_
          refine aw_iadd dX12_image_172 ?_
          refine aw_iload_n dX12_image_173 rfl ?_
          refine aw_iadd dX12_image_174 ?_
          refine aw_aload_n dX12_image_175 rfl ?_
          refine aw_get dX12_image_176 flX12_34 (mo_c0 hM) rfl ?_
          refine aw_iload_n dX12_image_179 rfl ?_
          refine aw_ialdN dX12_image_180 (mo_c9 hM) rfl (by omega) (by decide) ?_
          refine aw_iN_mo18 dX12_image_181 hM (show nI (180 * a) + 47 + nI j1 = nI (180 * a + 47 + j1) by rw [← nI_add, ← nI_add]; rfl) (by omega) (fun h hM ho => ?_)
          have hF := hF.trans ho
          refine aw_aload_n dX12_image_182 rfl ?_
          refine aw_get dX12_image_183 flX12_68 (mo_c0 hM) rfl ?_
          refine aw_iload_n dX12_image_186 rfl ?_
          refine aw_bipush (v := 53) dX12_image_187 (by decide) ?_
          refine aw_iadd dX12_image_189 ?_
          refine aw_iload_n dX12_image_190 rfl ?_
          refine aw_iadd dX12_image_191 ?_
          refine aw_aload_n dX12_image_192 rfl ?_
          refine aw_get dX12_image_193 flX12_37 (mo_c0 hM) rfl ?_
          refine aw_iload_n dX12_image_196 rfl ?_
          refine aw_ialdN dX12_image_197 (mo_c10 hM) rfl (by omega) (by decide) ?_
          refine aw_iN_mo18 dX12_image_198 hM (show nI (180 * a) + 53 + nI j1 = nI (180 * a + 53 + j1) by rw [← nI_add, ← nI_add]; rfl) (by omega) (fun h hM ho => ?_)
          have hF := hF.trans ho
          refine aw_inc (w := 1) dX12_image_199 rfl (by decide) (by decide) ?_
          refine aw_goto (tgt := 74) dX12_image_202 (by decide) ?_
          exact aw_loc [0, 2, 3] (ls2 := [(0, .ref m), (2, .int (nI (180 * a))), (3, .int (nI (j1 + 1)))]) (by first | (rw [nI_succ]; rfl) | rfl) (ih1 (j1 + 1) _ _ (by omega) hM hF heq1)
    exact aw_loc [0, 2, 3] (ls2 := [(0, .ref m), (2, .int (nI (180 * a))), (3, .int (nI 0))]) rfl (key1 (6) 0 _ _ (by first | rfl | omega) hM hF rfl)
  · refine aw_aload_n dX12_image_9 rfl ?_
    refine aw_callV0e dX12_image_10 cmX12_bad cvX12_97 (mo_c0 hM) (Nat.le_of_ble_eq_true rfl) (tX12_bad hM) (fun r n' h' hq => ?_)
    obtain ⟨rfl, rfl, hM, ho⟩ := hq
    have hF := hF.trans ho
    exact aw_iret dX12_image_13 rfl (mo_fin (if_pos c6) hM hF)
set_option maxHeartbeats 1000000 in
set_option maxRecDepth 100000 in
theorem tX12_from {l : Launch} {E : aw_E} {d n m : Nat} {h0 : ah} {S0 : sT} {L0 : Nat → Int64} (hM : is_mo h0 m S0 L0) {i : Int32} : am l E mX12_from (d + 1) 0 0 [.ref m, .int i] n h0 (mo_post n h0 m (mFrom S0 L0 i)) := by
  refine am_of (by decide +kernel) (Nat.le_of_ble_eq_true rfl) ?_
  have hF : ah_off h0 h0 m 21 := ah_off.rf
  refine aw_iload_n dX12_from_0 rfl ?_
  refine aw_iconst (v := 0) dX12_from_1 (by decide) ?_
  refine aw_iconst (v := 1) dX12_from_2 (by decide) ?_
  refine aw_callS3p dX12_from_3 cmX12_in csX12_93 (Nat.le_of_ble_eq_true rfl) tX12_in ?_
  refine aw_if_ne (tgt := 14) dX12_from_6 (by decide) (fun c6 => ?_) (fun c6 => ?_)
  · obtain ⟨a, ha, rfl⟩ := iW01 c6
    refine aw_aload_n dX12_from_14 rfl ?_
    refine aw_get dX12_from_15 flX12_71 (mo_c0 hM) rfl ?_
    refine aw_iload_n dX12_from_18 rfl ?_
    refine aw_ialdN dX12_from_19 (mo_c20 hM) rfl (by omega) (by decide) ?_
    refine aw_if_ne (tgt := 28) dX12_from_20 (by decide) (fun c20 => ?_) (fun c20 => ?_)
    · refine aw_sipush (v := 180) dX12_from_28 (by decide) ?_
      refine aw_iload_n dX12_from_31 rfl ?_
      refine aw_imul dX12_from_32 ?_
      rw [show (180 : Int32) * nI a = nI (180 * a) by rw [← pk_mul]; rfl]
      refine aw_istore_n dX12_from_33 (by decide) ?_
      refine aw_aload_n dX12_from_34 rfl ?_
      refine aw_aload_n dX12_from_35 rfl ?_
      refine aw_get dX12_from_36 flX12_68 (mo_c0 hM) rfl ?_
      refine aw_iload_n dX12_from_39 rfl ?_
      refine aw_ialdN dX12_from_40 (mo_c19 hM) rfl (by omega) (by decide) ?_
      refine aw_pf_mo0 dX12_from_41 fpX12_77 hM (fun h hM ho => ?_)
      have hF := hF.trans ho
      refine aw_aload_n dX12_from_44 rfl ?_
      refine aw_aload_n dX12_from_45 rfl ?_
      refine aw_get dX12_from_46 flX12_68 (mo_c0 hM) rfl ?_
      refine aw_iload_n dX12_from_49 rfl ?_
      refine aw_iconst (v := 1) dX12_from_50 (by decide) ?_
      refine aw_iadd dX12_from_51 ?_
      refine aw_ialdN dX12_from_52 (mo_c19 hM) (show nI (180 * a) + 1 = nI (180 * a + 1) by rw [← nI_add]; rfl) (by omega) (by decide) ?_
      refine aw_pf_mo3 dX12_from_53 fpX12_87 hM (fun h hM ho => ?_)
      have hF := hF.trans ho
      refine aw_aload_n dX12_from_56 rfl ?_
      refine aw_aload_n dX12_from_57 rfl ?_
      refine aw_get dX12_from_58 flX12_68 (mo_c0 hM) rfl ?_
      refine aw_iload_n dX12_from_61 rfl ?_
      refine aw_iconst (v := 2) dX12_from_62 (by decide) ?_
      refine aw_iadd dX12_from_63 ?_
      refine aw_ialdN dX12_from_64 (mo_c19 hM) (show nI (180 * a) + 2 = nI (180 * a + 2) by rw [← nI_add]; rfl) (by omega) (by decide) ?_
      refine aw_pf_mo9 dX12_from_65 fpX12_90 hM (fun h hM ho => ?_)
      have hF := hF.trans ho
      refine aw_aload_n dX12_from_68 rfl ?_
      refine aw_aload_n dX12_from_69 rfl ?_
      refine aw_get dX12_from_70 flX12_68 (mo_c0 hM) rfl ?_
      refine aw_iload_n dX12_from_73 rfl ?_
      refine aw_iconst (v := 3) dX12_from_74 (by decide) ?_
      refine aw_iadd dX12_from_75 ?_
      refine aw_callV2e dX12_from_76 cmX12_takes cvX12_193 (mo_c0 hM) (Nat.le_of_ble_eq_true rfl) (tX12_takes18 hM (a := 180 * a + 3) (show nI (180 * a) + 3 = nI (180 * a + 3) by rw [← nI_add]; rfl) (by omega)) (fun r n' h' hq => ?_)
      obtain ⟨rfl, rfl, hM, ho⟩ := hq
      have hF := hF.trans ho
      refine aw_iconst (v := 0) dX12_from_79 (by decide) ?_
      refine aw_istore_n dX12_from_80 (by decide) ?_
      have key1 : ∀ (k1 j1 : Nat) (h : ah) (S : sT), j1 + k1 = 6 → is_mo h m S L0 → ah_off h0 h m 21 → mFr6 a 6 0 (mFrH a S0) = mFr6 a k1 j1 S → aw l E mX12_from (aw_Z E (mo_post n h0 m (mFrom S0 L0 (nI a)))) (d + 1) 0 0 81 [(0, .ref m), (2, .int (nI (180 * a))), (3, .int (nI j1))] [] n h := by
        intro k1
        induction k1 with
        | zero =>
          intro j1 h S hj1 hM hF heq1
          refine aw_iload_n dX12_from_81 rfl ?_
          refine aw_bipush (v := 6) dX12_from_82 (by decide) ?_
          refine aw_icmp_ge (tgt := 212) dX12_from_84 (by decide) (fun c84 => ?_) (fun c84 => ?_)
          · refine aw_iconst (v := 0) dX12_from_212 (by decide) ?_
            refine aw_istore_n dX12_from_213 (by decide) ?_
            have key2 : ∀ (k2 j2 : Nat) (h : ah) (S : sT), j2 + k2 = 112 → is_mo h m S L0 → ah_off h0 h m 21 → mFrm S0 a = mFrL a k2 j2 S → aw l E mX12_from (aw_Z E (mo_post n h0 m (mFrom S0 L0 (nI a)))) (d + 1) 0 0 214 [(0, .ref m), (2, .int (nI (180 * a))), (3, .int (nI j2))] [] n h := by
              intro k2
              induction k2 with
              | zero =>
                intro j2 h S hj2 hM hF heq2
                refine aw_iload_n dX12_from_214 rfl ?_
                refine aw_bipush (v := 112) dX12_from_215 (by decide) ?_
                refine aw_icmp_ge (tgt := 243) dX12_from_217 (by decide) (fun c217 => ?_) (fun c217 => ?_)
                · refine aw_iconst (v := 1) dX12_from_243 (by decide) ?_
                  exact aw_iret dX12_from_244 rfl (mo_fin ((mFrom_a S0 L0 ha).trans ((if_neg c20).trans (congrArg (fun z : sT => ((1 : Int32), z, L0)) heq2))) hM hF)
                · exact absurd ((nI_leI (a := 112) (b := j2) (by omega) (by omega)).mpr (by omega)) c217
              | succ k2 ih2 =>
                intro j2 h S hj2 hM hF heq2
                refine aw_iload_n dX12_from_214 rfl ?_
                refine aw_bipush (v := 112) dX12_from_215 (by decide) ?_
                refine aw_icmp_ge (tgt := 243) dX12_from_217 (by decide) (fun c217 => ?_) (fun c217 => ?_)
                · exact absurd ((nI_leI (a := 112) (b := j2) (by omega) (by omega)).mp c217) (by omega)
                · refine aw_aload_n dX12_from_220 rfl ?_
                  refine aw_get dX12_from_221 flX12_46 (mo_c0 hM) rfl ?_
                  refine aw_iload_n dX12_from_224 rfl ?_
                  refine aw_aload_n dX12_from_225 rfl ?_
                  refine aw_get dX12_from_226 flX12_68 (mo_c0 hM) rfl ?_
                  refine aw_iload_n dX12_from_229 rfl ?_
                  refine aw_bipush (v := 59) dX12_from_230 (by decide) ?_
                  refine aw_iadd dX12_from_232 ?_
                  refine aw_iload_n dX12_from_233 rfl ?_
                  refine aw_iadd dX12_from_234 ?_
                  refine aw_ialdN dX12_from_235 (mo_c19 hM) (show nI (180 * a) + 59 + nI j2 = nI (180 * a + 59 + j2) by rw [← nI_add, ← nI_add]; rfl) (by omega) (by decide) ?_
                  refine aw_iN_mo12 dX12_from_236 hM rfl (by omega) (fun h hM ho => ?_)
                  have hF := hF.trans ho
                  refine aw_inc (w := 1) dX12_from_237 rfl (by decide) (by decide) ?_
                  refine aw_goto (tgt := 214) dX12_from_240 (by decide) ?_
                  exact aw_loc [0, 2, 3] (ls2 := [(0, .ref m), (2, .int (nI (180 * a))), (3, .int (nI (j2 + 1)))]) (by first | (rw [nI_succ]; rfl) | rfl) (ih2 (j2 + 1) _ _ (by omega) hM hF heq2)
            exact aw_loc [0, 2, 3] (ls2 := [(0, .ref m), (2, .int (nI (180 * a))), (3, .int (nI 0))]) rfl (key2 (112) 0 _ _ (by first | rfl | omega) hM hF (congrArg (mFrL a 112 0) heq1))
          · exact absurd ((nI_leI (a := 6) (b := j1) (by omega) (by omega)).mpr (by omega)) c84
        | succ k1 ih1 =>
          intro j1 h S hj1 hM hF heq1
          refine aw_iload_n dX12_from_81 rfl ?_
          refine aw_bipush (v := 6) dX12_from_82 (by decide) ?_
          refine aw_icmp_ge (tgt := 212) dX12_from_84 (by decide) (fun c84 => ?_) (fun c84 => ?_)
          · exact absurd ((nI_leI (a := 6) (b := j1) (by omega) (by omega)).mp c84) (by omega)
          · refine aw_aload_n dX12_from_87 rfl ?_
            refine aw_get dX12_from_88 flX12_13 (mo_c0 hM) rfl ?_
            refine aw_iload_n dX12_from_91 rfl ?_
            refine aw_aload_n dX12_from_92 rfl ?_
            refine aw_get dX12_from_93 flX12_68 (mo_c0 hM) rfl ?_
            refine aw_iload_n dX12_from_96 rfl ?_
            refine aw_bipush (v := 17) dX12_from_97 (by decide) ?_
            refine aw_iadd dX12_from_99 ?_
            refine aw_iload_n dX12_from_100 rfl ?_
            refine aw_iadd dX12_from_101 ?_
            refine aw_ialdN dX12_from_102 (mo_c19 hM) (show nI (180 * a) + 17 + nI j1 = nI (180 * a + 17 + j1) by rw [← nI_add, ← nI_add]; rfl) (by omega) (by decide) ?_
            refine aw_iN_mo1 dX12_from_103 hM rfl (by omega) (fun h hM ho => ?_)
            have hF := hF.trans ho
            refine aw_aload_n dX12_from_104 rfl ?_
            refine aw_get dX12_from_105 flX12_22 (mo_c0 hM) rfl ?_
            refine aw_iload_n dX12_from_108 rfl ?_
            refine aw_aload_n dX12_from_109 rfl ?_
            refine aw_get dX12_from_110 flX12_68 (mo_c0 hM) rfl ?_
            refine aw_iload_n dX12_from_113 rfl ?_
            refine aw_bipush (v := 23) dX12_from_114 (by decide) ?_
            refine aw_iadd dX12_from_116 ?_
            refine aw_iload_n dX12_from_117 rfl ?_
            refine aw_iadd dX12_from_118 ?_
            refine aw_ialdN dX12_from_119 (mo_c19 hM) (show nI (180 * a) + 23 + nI j1 = nI (180 * a + 23 + j1) by rw [← nI_add, ← nI_add]; rfl) (by omega) (by decide) ?_
            refine aw_iN_mo4 dX12_from_120 hM rfl (by omega) (fun h hM ho => ?_)
            have hF := hF.trans ho
            refine aw_aload_n dX12_from_121 rfl ?_
            refine aw_get dX12_from_122 flX12_25 (mo_c0 hM) rfl ?_
            refine aw_iload_n dX12_from_125 rfl ?_
            refine aw_aload_n dX12_from_126 rfl ?_
            refine aw_get dX12_from_127 flX12_68 (mo_c0 hM) rfl ?_
            refine aw_iload_n dX12_from_130 rfl ?_
            refine aw_bipush (v := 29) dX12_from_131 (by decide) ?_
            refine aw_iadd dX12_from_133 ?_
            refine aw_iload_n dX12_from_134 rfl ?_
            refine aw_iadd dX12_from_135 ?_
            refine aw_ialdN dX12_from_136 (mo_c19 hM) (show nI (180 * a) + 29 + nI j1 = nI (180 * a + 29 + j1) by rw [← nI_add, ← nI_add]; rfl) (by omega) (by decide) ?_
            refine aw_iN_mo5 dX12_from_137 hM rfl (by omega) (fun h hM ho => ?_)
            have hF := hF.trans ho
            refine aw_aload_n dX12_from_138 rfl ?_
            refine aw_get dX12_from_139 flX12_28 (mo_c0 hM) rfl ?_
            refine aw_iload_n dX12_from_142 rfl ?_
            refine aw_aload_n dX12_from_143 rfl ?_
            refine aw_get dX12_from_144 flX12_68 (mo_c0 hM) rfl ?_
            refine aw_iload_n dX12_from_147 rfl ?_
            refine aw_bipush (v := 35) dX12_from_148 (by decide) ?_
            refine aw_iadd dX12_from_150 ?_
            refine aw_iload_n dX12_from_151 rfl ?_
            refine aw_iadd dX12_from_152 ?_
            refine aw_ialdN dX12_from_153 (mo_c19 hM) (show nI (180 * a) + 35 + nI j1 = nI (180 * a + 35 + j1) by rw [← nI_add, ← nI_add]; rfl) (by omega) (by decide) ?_
            refine aw_iN_mo6 dX12_from_154 hM rfl (by omega) (fun h hM ho => ?_)
            have hF := hF.trans ho
            refine aw_aload_n dX12_from_155 rfl ?_
            refine aw_get dX12_from_156 flX12_31 (mo_c0 hM) rfl ?_
            refine aw_iload_n dX12_from_159 rfl ?_
            refine aw_aload_n dX12_from_160 rfl ?_
            refine aw_get dX12_from_161 flX12_68 (mo_c0 hM) rfl ?_
            refine aw_iload_n dX12_from_164 rfl ?_
            refine aw_bipush (v := 41) dX12_from_165 (by decide) ?_
            refine aw_iadd dX12_from_167 ?_
            refine aw_iload_n dX12_from_168 rfl ?_
            refine aw_iadd dX12_from_169 ?_
            refine aw_ialdN dX12_from_170 (mo_c19 hM) (show nI (180 * a) + 41 + nI j1 = nI (180 * a + 41 + j1) by rw [← nI_add, ← nI_add]; rfl) (by omega) (by decide) ?_
            refine aw_iN_mo7 dX12_from_171 hM rfl (by omega) (fun h hM ho => ?_)
            have hF := hF.trans ho
            refine aw_aload_n dX12_from_172 rfl ?_
            refine aw_get dX12_from_173 flX12_34 (mo_c0 hM) rfl ?_
            refine aw_iload_n dX12_from_176 rfl ?_
            refine aw_aload_n dX12_from_177 rfl ?_
            refine aw_get dX12_from_178 flX12_68 (mo_c0 hM) rfl ?_
            refine aw_iload_n dX12_from_181 rfl ?_
            refine aw_bipush (v := 47) dX12_from_182 (by decide) ?_
            refine aw_iadd dX12_from_184 ?_
            refine aw_iload_n dX12_from_185 rfl ?_
            refine aw_iadd dX12_from_186 ?_
            refine aw_ialdN dX12_from_187 (mo_c19 hM) (show nI (180 * a) + 47 + nI j1 = nI (180 * a + 47 + j1) by rw [← nI_add, ← nI_add]; rfl) (by omega) (by decide) ?_
            refine aw_iN_mo8 dX12_from_188 hM rfl (by omega) (fun h hM ho => ?_)
            have hF := hF.trans ho
            refine aw_aload_n dX12_from_189 rfl ?_
            refine aw_get dX12_from_190 flX12_37 (mo_c0 hM) rfl ?_
            refine aw_iload_n dX12_from_193 rfl ?_
            refine aw_aload_n dX12_from_194 rfl ?_
            refine aw_get dX12_from_195 flX12_68 (mo_c0 hM) rfl ?_
            refine aw_iload_n dX12_from_198 rfl ?_
            refine aw_bipush (v := 53) dX12_from_199 (by decide) ?_
            refine aw_iadd dX12_from_201 ?_
            refine aw_iload_n dX12_from_202 rfl ?_
            refine aw_iadd dX12_from_203 ?_
            refine aw_ialdN dX12_from_204 (mo_c19 hM) (show nI (180 * a) + 53 + nI j1 = nI (180 * a + 53 + j1) by rw [← nI_add, ← nI_add]; rfl) (by omega) (by decide) ?_
            refine aw_iN_mo9 dX12_from_205 hM rfl (by omega) (fun h hM ho => ?_)
            have hF := hF.trans ho
            refine aw_inc (w := 1) dX12_from_206 rfl (by decide) (by decide) ?_
            refine aw_goto (tgt := 81) dX12_from_209 (by decide) ?_
            exact aw_loc [0, 2, 3] (ls2 := [(0, .ref m), (2, .int (nI (180 * a))), (3, .int (nI (j1 + 1)))]) (by first | (rw [nI_succ]; rfl) | rfl) (ih1 (j1 + 1) _ _ (by omega) hM hF heq1)
      exact aw_loc [0, 2, 3] (ls2 := [(0, .ref m), (2, .int (nI (180 * a))), (3, .int (nI 0))]) rfl (key1 (6) 0 _ _ (by first | rfl | omega) hM hF rfl)
    · refine aw_aload_n dX12_from_23 rfl ?_
      refine aw_callV0e dX12_from_24 cmX12_no cvX12_209 (mo_c0 hM) (Nat.le_of_ble_eq_true rfl) (tX12_no hM) (fun r n' h' hq => ?_)
      obtain ⟨rfl, rfl, hM, ho⟩ := hq
      have hF := hF.trans ho
      exact aw_iret dX12_from_27 rfl (mo_fin ((mFrom_a S0 L0 ha).trans (if_pos c20)) hM hF)
  · refine aw_aload_n dX12_from_9 rfl ?_
    refine aw_callV0e dX12_from_10 cmX12_bad cvX12_97 (mo_c0 hM) (Nat.le_of_ble_eq_true rfl) (tX12_bad hM) (fun r n' h' hq => ?_)
    obtain ⟨rfl, rfl, hM, ho⟩ := hq
    have hF := hF.trans ho
    exact aw_iret dX12_from_13 rfl (mo_fin (if_pos c6) hM hF)
