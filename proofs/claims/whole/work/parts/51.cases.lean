/-! THE LAW, case by case. -/
section LAW
variable {l : Launch} {E : aw_E} {Z : aw_Zt} {adK adV : Nat → Nat} {fm : Value} {sb sL b i0 : Nat} {xs : Nat → Int32}
set_option maxHeartbeats 1000000 in
set_option maxRecDepth 100000 in
theorem lc_0 (hG : E.2.2.2 = gV E.2.2.1 adK adV fm sb sL xs) (hfm : fm.category = 1) (hL : i0 + 5 ≤ sL) (hL2 : sL ≤ 2560) (K : lK l E Z sb b i0) {n kc bc bs : Nat} {h : ah} (hw : lwW b n h kc) (hb1 : 20 * kc ≤ bc) (hb2 : 191 * kc ≤ bs) : aw l E mL_law Z 11 bc bs 172 (lls sb b i0) [] n h := by
  obtain ⟨g, ⟨C, L, T, A, R, V⟩, S, Lm, Im, hX, hMo, ⟨M, N, u, t, hr⟩, hi, hok, hn⟩ := hw
  have h1 : tRel T S M N u := hr.1
  have hM6 : M ≤ 6 := h1.1.1
  have hN6 : N ≤ 6 := h1.1.2.1
  have hu8 : u ≤ 8 := h1.1.2.2
  have eT0 : T 10 0 = nI M := h1.2.1.1
  have eS0 : S 30 0 = nI M := h1.2.1.2.1
  have eT3 : T 10 3 = nI N := h1.2.1.2.2.2.2.1
  have eS3 : S 30 3 = nI N := h1.2.1.2.2.2.2.2.1
  have eu : S 30 9 = nI u := h1.2.1.2.2.2.2.2.2.2
  have ht : t ≤ 150 := hr.2.1.1
  have eR : R 10 0 = nI t := hr.2.1.2.1
  have eS4 : S 30 4 = nI t := hr.2.1.2.2.1
  refine aw_aload_n dL_law_172 rfl ?_
  refine aw_callV0e (d := 10) dL_law_173 cmX11_gold cvL_13 (hg_c0 hX.1) (Nat.le_of_ble_eq_true rfl) (tX11_gold (d := 8) hX) (fun r n1 hh1 hq => ?_)
  obtain ⟨rfl, rfl, hX1, ho1⟩ := hq
  have hMo1 := mo_off hMo ho1 (Or.inr (Nat.le_refl _))
  refine aw_aload_n dL_law_176 rfl ?_
  refine aw_callV0e (d := 10) dL_law_177 cmX12_gold cvL_17 (mo_c0 hMo1) (Nat.le_of_ble_eq_true rfl) (tX12_gold (d := 9) hMo1) (fun r n2 hh2 hq => ?_)
  obtain ⟨rfl, rfl, hMo2, ho2⟩ := hq
  have hti := tie_gold hr
  refine aw_icmp_eq (tgt := 1067) dL_law_180 (by decide) (fun _ => ?_) (fun c => absurd hti.1 c)
  exact K _ _ _ _ _ (lw_fin hX1 ho1 hMo2 ho2 hti hi hok hn) hb1 hb2
set_option maxHeartbeats 1000000 in
set_option maxRecDepth 100000 in
theorem lc_1 (hG : E.2.2.2 = gV E.2.2.1 adK adV fm sb sL xs) (hfm : fm.category = 1) (hL : i0 + 5 ≤ sL) (hL2 : sL ≤ 2560) (K : lK l E Z sb b i0) {n kc bc bs : Nat} {h : ah} (hw : lwW b n h kc) (hb1 : 20 * kc ≤ bc) (hb2 : 191 * kc ≤ bs) : aw l E mL_law Z 11 bc bs 185 (lls sb b i0) [] n h := by
  obtain ⟨g, ⟨C, L, T, A, R, V⟩, S, Lm, Im, hX, hMo, ⟨M, N, u, t, hr⟩, hi, hok, hn⟩ := hw
  have h1 : tRel T S M N u := hr.1
  have hM6 : M ≤ 6 := h1.1.1
  have hN6 : N ≤ 6 := h1.1.2.1
  have hu8 : u ≤ 8 := h1.1.2.2
  have eT0 : T 10 0 = nI M := h1.2.1.1
  have eS0 : S 30 0 = nI M := h1.2.1.2.1
  have eT3 : T 10 3 = nI N := h1.2.1.2.2.2.2.1
  have eS3 : S 30 3 = nI N := h1.2.1.2.2.2.2.2.1
  have eu : S 30 9 = nI u := h1.2.1.2.2.2.2.2.2.2
  have ht : t ≤ 150 := hr.2.1.1
  have eR : R 10 0 = nI t := hr.2.1.2.1
  have eS4 : S 30 4 = nI t := hr.2.1.2.2.1
  refine aw_aload_n dL_law_185 rfl ?_
  refine aw_aload_n dL_law_186 rfl ?_
  refine aw_iload_n dL_law_187 rfl ?_
  refine aw_iconst (v := 1) dL_law_188 (by decide) ?_
  refine aw_iadd dL_law_189 ?_
  refine aw_sld hG dL_law_190 (nI_add i0 1) (by omega) (by omega) ?_
  refine aw_aload_n dL_law_191 rfl ?_
  refine aw_iload_n dL_law_192 rfl ?_
  refine aw_iconst (v := 2) dL_law_193 (by decide) ?_
  refine aw_iadd dL_law_194 ?_
  refine aw_sld hG dL_law_195 (nI_add i0 2) (by omega) (by omega) ?_
  refine aw_aload_n dL_law_196 rfl ?_
  refine aw_iload_n dL_law_197 rfl ?_
  refine aw_iconst (v := 3) dL_law_198 (by decide) ?_
  refine aw_iadd dL_law_199 ?_
  refine aw_sld hG dL_law_200 (nI_add i0 3) (by omega) (by omega) ?_
  refine aw_aload_n dL_law_201 rfl ?_
  refine aw_iload_n dL_law_202 rfl ?_
  refine aw_iconst (v := 4) dL_law_203 (by decide) ?_
  refine aw_iadd dL_law_204 ?_
  refine aw_sld hG dL_law_205 (nI_add i0 4) (by omega) (by omega) ?_
  refine aw_callV4e (d := 10) dL_law_206 cmX11_one cvL_18 (hg_c0 hX.1) (Nat.le_of_ble_eq_true rfl) (tX11_one (d := 8) hX (by rw [eT0]; exact nI_pos (by omega))) (fun r n1 hh1 hq => ?_)
  obtain ⟨rfl, rfl, hX1, ho1⟩ := hq
  have hMo1 := mo_off hMo ho1 (Or.inr (Nat.le_refl _))
  refine aw_aload_n dL_law_209 rfl ?_
  refine aw_aload_n dL_law_210 rfl ?_
  refine aw_iload_n dL_law_211 rfl ?_
  refine aw_iconst (v := 1) dL_law_212 (by decide) ?_
  refine aw_iadd dL_law_213 ?_
  refine aw_sld hG dL_law_214 (nI_add i0 1) (by omega) (by omega) ?_
  refine aw_aload_n dL_law_215 rfl ?_
  refine aw_iload_n dL_law_216 rfl ?_
  refine aw_iconst (v := 2) dL_law_217 (by decide) ?_
  refine aw_iadd dL_law_218 ?_
  refine aw_sld hG dL_law_219 (nI_add i0 2) (by omega) (by omega) ?_
  refine aw_aload_n dL_law_220 rfl ?_
  refine aw_iload_n dL_law_221 rfl ?_
  refine aw_iconst (v := 3) dL_law_222 (by decide) ?_
  refine aw_iadd dL_law_223 ?_
  refine aw_sld hG dL_law_224 (nI_add i0 3) (by omega) (by omega) ?_
  refine aw_aload_n dL_law_225 rfl ?_
  refine aw_iload_n dL_law_226 rfl ?_
  refine aw_iconst (v := 4) dL_law_227 (by decide) ?_
  refine aw_iadd dL_law_228 ?_
  refine aw_sld hG dL_law_229 (nI_add i0 4) (by omega) (by omega) ?_
  refine aw_callV4e (d := 10) dL_law_230 cmX12_one cvL_22 (mo_c0 hMo1) (Nat.le_of_ble_eq_true rfl) (tX12_one (d := 9) hMo1 eS0 hM6) (fun r n2 hh2 hq => ?_)
  obtain ⟨rfl, rfl, hMo2, ho2⟩ := hq
  have hti := tie_one hr (xs (i0 + 1)) (xs (i0 + 2)) (xs (i0 + 3)) (xs (i0 + 4))
  refine aw_icmp_eq (tgt := 1067) dL_law_233 (by decide) (fun _ => ?_) (fun c => absurd hti.1 c)
  exact K _ _ _ _ _ (lw_fin hX1 ho1 hMo2 ho2 hti hi hok hn) hb1 hb2
set_option maxHeartbeats 1000000 in
set_option maxRecDepth 100000 in
theorem lc_2 (hG : E.2.2.2 = gV E.2.2.1 adK adV fm sb sL xs) (hfm : fm.category = 1) (hL : i0 + 5 ≤ sL) (hL2 : sL ≤ 2560) (K : lK l E Z sb b i0) {n kc bc bs : Nat} {h : ah} (hw : lwW b n h kc) (hb1 : 20 * kc ≤ bc) (hb2 : 191 * kc ≤ bs) : aw l E mL_law Z 11 bc bs 238 (lls sb b i0) [] n h := by
  obtain ⟨g, ⟨C, L, T, A, R, V⟩, S, Lm, Im, hX, hMo, ⟨M, N, u, t, hr⟩, hi, hok, hn⟩ := hw
  have h1 : tRel T S M N u := hr.1
  have hM6 : M ≤ 6 := h1.1.1
  have hN6 : N ≤ 6 := h1.1.2.1
  have hu8 : u ≤ 8 := h1.1.2.2
  have eT0 : T 10 0 = nI M := h1.2.1.1
  have eS0 : S 30 0 = nI M := h1.2.1.2.1
  have eT3 : T 10 3 = nI N := h1.2.1.2.2.2.2.1
  have eS3 : S 30 3 = nI N := h1.2.1.2.2.2.2.2.1
  have eu : S 30 9 = nI u := h1.2.1.2.2.2.2.2.2.2
  have ht : t ≤ 150 := hr.2.1.1
  have eR : R 10 0 = nI t := hr.2.1.2.1
  have eS4 : S 30 4 = nI t := hr.2.1.2.2.1
  refine aw_aload_n dL_law_238 rfl ?_
  refine aw_aload_n dL_law_239 rfl ?_
  refine aw_iload_n dL_law_240 rfl ?_
  refine aw_iconst (v := 1) dL_law_241 (by decide) ?_
  refine aw_iadd dL_law_242 ?_
  refine aw_sld hG dL_law_243 (nI_add i0 1) (by omega) (by omega) ?_
  refine aw_aload_n dL_law_244 rfl ?_
  refine aw_iload_n dL_law_245 rfl ?_
  refine aw_iconst (v := 2) dL_law_246 (by decide) ?_
  refine aw_iadd dL_law_247 ?_
  refine aw_sld hG dL_law_248 (nI_add i0 2) (by omega) (by omega) ?_
  refine aw_aload_n dL_law_249 rfl ?_
  refine aw_iload_n dL_law_250 rfl ?_
  refine aw_iconst (v := 3) dL_law_251 (by decide) ?_
  refine aw_iadd dL_law_252 ?_
  refine aw_sld hG dL_law_253 (nI_add i0 3) (by omega) (by omega) ?_
  refine aw_callV3e (d := 10) dL_law_254 cmX11_hands cvL_23 (hg_c0 hX.1) (Nat.le_of_ble_eq_true rfl) (tX11_hands (d := 8) hX) (fun r n1 hh1 hq => ?_)
  obtain ⟨rfl, rfl, hX1, ho1⟩ := hq
  have hMo1 := mo_off hMo ho1 (Or.inr (Nat.le_refl _))
  refine aw_aload_n dL_law_257 rfl ?_
  refine aw_aload_n dL_law_258 rfl ?_
  refine aw_iload_n dL_law_259 rfl ?_
  refine aw_iconst (v := 1) dL_law_260 (by decide) ?_
  refine aw_iadd dL_law_261 ?_
  refine aw_sld hG dL_law_262 (nI_add i0 1) (by omega) (by omega) ?_
  refine aw_aload_n dL_law_263 rfl ?_
  refine aw_iload_n dL_law_264 rfl ?_
  refine aw_iconst (v := 2) dL_law_265 (by decide) ?_
  refine aw_iadd dL_law_266 ?_
  refine aw_sld hG dL_law_267 (nI_add i0 2) (by omega) (by omega) ?_
  refine aw_aload_n dL_law_268 rfl ?_
  refine aw_iload_n dL_law_269 rfl ?_
  refine aw_iconst (v := 3) dL_law_270 (by decide) ?_
  refine aw_iadd dL_law_271 ?_
  refine aw_sld hG dL_law_272 (nI_add i0 3) (by omega) (by omega) ?_
  refine aw_callV3e (d := 10) dL_law_273 cmX12_hands cvL_27 (mo_c0 hMo1) (Nat.le_of_ble_eq_true rfl) (tX12_hands (d := 8) hMo1 eS0 hM6) (fun r n2 hh2 hq => ?_)
  obtain ⟨rfl, rfl, hMo2, ho2⟩ := hq
  have hti := tie_hands hr (xs (i0 + 1)) (xs (i0 + 2)) (xs (i0 + 3))
  refine aw_icmp_eq (tgt := 1067) dL_law_276 (by decide) (fun _ => ?_) (fun c => absurd hti.1 c)
  exact K _ _ _ _ _ (lw_fin hX1 ho1 hMo2 ho2 hti hi hok hn) hb1 hb2
set_option maxHeartbeats 1000000 in
set_option maxRecDepth 100000 in
theorem lc_3 (hG : E.2.2.2 = gV E.2.2.1 adK adV fm sb sL xs) (hfm : fm.category = 1) (hL : i0 + 5 ≤ sL) (hL2 : sL ≤ 2560) (K : lK l E Z sb b i0) {n kc bc bs : Nat} {h : ah} (hw : lwW b n h kc) (hb1 : 20 * kc ≤ bc) (hb2 : 191 * kc ≤ bs) : aw l E mL_law Z 11 bc bs 281 (lls sb b i0) [] n h := by
  obtain ⟨g, ⟨C, L, T, A, R, V⟩, S, Lm, Im, hX, hMo, ⟨M, N, u, t, hr⟩, hi, hok, hn⟩ := hw
  have h1 : tRel T S M N u := hr.1
  have hM6 : M ≤ 6 := h1.1.1
  have hN6 : N ≤ 6 := h1.1.2.1
  have hu8 : u ≤ 8 := h1.1.2.2
  have eT0 : T 10 0 = nI M := h1.2.1.1
  have eS0 : S 30 0 = nI M := h1.2.1.2.1
  have eT3 : T 10 3 = nI N := h1.2.1.2.2.2.2.1
  have eS3 : S 30 3 = nI N := h1.2.1.2.2.2.2.2.1
  have eu : S 30 9 = nI u := h1.2.1.2.2.2.2.2.2.2
  have ht : t ≤ 150 := hr.2.1.1
  have eR : R 10 0 = nI t := hr.2.1.2.1
  have eS4 : S 30 4 = nI t := hr.2.1.2.2.1
  refine aw_aload_n dL_law_281 rfl ?_
  refine aw_aload_n dL_law_282 rfl ?_
  refine aw_iload_n dL_law_283 rfl ?_
  refine aw_iconst (v := 1) dL_law_284 (by decide) ?_
  refine aw_iadd dL_law_285 ?_
  refine aw_sld hG dL_law_286 (nI_add i0 1) (by omega) (by omega) ?_
  refine aw_callV1e (d := 10) dL_law_287 cmX11_type cvL_28 (hg_c0 hX.1) (Nat.le_of_ble_eq_true rfl) (tX11_type (d := 9) hX (by rw [eR]; exact nI_pos (by omega))) (fun r n1 hh1 hq => ?_)
  obtain ⟨rfl, rfl, hX1, ho1⟩ := hq
  have hMo1 := mo_off hMo ho1 (Or.inr (Nat.le_refl _))
  refine aw_aload_n dL_law_290 rfl ?_
  refine aw_aload_n dL_law_291 rfl ?_
  refine aw_iload_n dL_law_292 rfl ?_
  refine aw_iconst (v := 1) dL_law_293 (by decide) ?_
  refine aw_iadd dL_law_294 ?_
  refine aw_sld hG dL_law_295 (nI_add i0 1) (by omega) (by omega) ?_
  refine aw_callV1e (d := 10) dL_law_296 cmX12_type cvL_32 (mo_c0 hMo1) (Nat.le_of_ble_eq_true rfl) (tX12_type (d := 9) hMo1 eS4 ht) (fun r n2 hh2 hq => ?_)
  obtain ⟨rfl, rfl, hMo2, ho2⟩ := hq
  have hti := tie_type hr (xs (i0 + 1))
  refine aw_icmp_eq (tgt := 1067) dL_law_299 (by decide) (fun _ => ?_) (fun c => absurd hti.1 c)
  exact K _ _ _ _ _ (lw_fin hX1 ho1 hMo2 ho2 hti hi hok hn) hb1 hb2
set_option maxHeartbeats 1000000 in
set_option maxRecDepth 100000 in
theorem lc_4 (hG : E.2.2.2 = gV E.2.2.1 adK adV fm sb sL xs) (hfm : fm.category = 1) (hL : i0 + 5 ≤ sL) (hL2 : sL ≤ 2560) (K : lK l E Z sb b i0) {n kc bc bs : Nat} {h : ah} (hw : lwW b n h kc) (hb1 : 20 * kc ≤ bc) (hb2 : 191 * kc ≤ bs) : aw l E mL_law Z 11 bc bs 304 (lls sb b i0) [] n h := by
  obtain ⟨g, ⟨C, L, T, A, R, V⟩, S, Lm, Im, hX, hMo, ⟨M, N, u, t, hr⟩, hi, hok, hn⟩ := hw
  have h1 : tRel T S M N u := hr.1
  have hM6 : M ≤ 6 := h1.1.1
  have hN6 : N ≤ 6 := h1.1.2.1
  have hu8 : u ≤ 8 := h1.1.2.2
  have eT0 : T 10 0 = nI M := h1.2.1.1
  have eS0 : S 30 0 = nI M := h1.2.1.2.1
  have eT3 : T 10 3 = nI N := h1.2.1.2.2.2.2.1
  have eS3 : S 30 3 = nI N := h1.2.1.2.2.2.2.2.1
  have eu : S 30 9 = nI u := h1.2.1.2.2.2.2.2.2.2
  have ht : t ≤ 150 := hr.2.1.1
  have eR : R 10 0 = nI t := hr.2.1.2.1
  have eS4 : S 30 4 = nI t := hr.2.1.2.2.1
  refine aw_aload_n dL_law_304 rfl ?_
  refine aw_callV0e (d := 10) dL_law_305 cmX11_clear cvL_33 (hg_c0 hX.1) (Nat.le_of_ble_eq_true rfl) (tX11_clear (d := 9) hX) (fun r n1 hh1 hq => ?_)
  obtain ⟨rfl, rfl, hX1, ho1⟩ := hq
  have hMo1 := mo_off hMo ho1 (Or.inr (Nat.le_refl _))
  refine aw_aload_n dL_law_308 rfl ?_
  refine aw_callV0e (d := 10) dL_law_309 cmX12_clear cvL_36 (mo_c0 hMo1) (Nat.le_of_ble_eq_true rfl) (tX12_clear (d := 10) hMo1) (fun r n2 hh2 hq => ?_)
  obtain ⟨rfl, rfl, hMo2, ho2⟩ := hq
  have hti := tie_clear hr
  refine aw_icmp_eq (tgt := 1067) dL_law_312 (by decide) (fun _ => ?_) (fun c => absurd hti.1 c)
  exact K _ _ _ _ _ (lw_fin hX1 ho1 hMo2 ho2 hti hi hok hn) hb1 hb2
set_option maxHeartbeats 1000000 in
set_option maxRecDepth 100000 in
theorem lc_5 (hG : E.2.2.2 = gV E.2.2.1 adK adV fm sb sL xs) (hfm : fm.category = 1) (hL : i0 + 5 ≤ sL) (hL2 : sL ≤ 2560) (K : lK l E Z sb b i0) {n kc bc bs : Nat} {h : ah} (hw : lwW b n h kc) (hb1 : 20 * kc ≤ bc) (hb2 : 191 * kc ≤ bs) : aw l E mL_law Z 11 bc bs 317 (lls sb b i0) [] n h := by
  obtain ⟨g, ⟨C, L, T, A, R, V⟩, S, Lm, Im, hX, hMo, ⟨M, N, u, t, hr⟩, hi, hok, hn⟩ := hw
  have h1 : tRel T S M N u := hr.1
  have hM6 : M ≤ 6 := h1.1.1
  have hN6 : N ≤ 6 := h1.1.2.1
  have hu8 : u ≤ 8 := h1.1.2.2
  have eT0 : T 10 0 = nI M := h1.2.1.1
  have eS0 : S 30 0 = nI M := h1.2.1.2.1
  have eT3 : T 10 3 = nI N := h1.2.1.2.2.2.2.1
  have eS3 : S 30 3 = nI N := h1.2.1.2.2.2.2.2.1
  have eu : S 30 9 = nI u := h1.2.1.2.2.2.2.2.2.2
  have ht : t ≤ 150 := hr.2.1.1
  have eR : R 10 0 = nI t := hr.2.1.2.1
  have eS4 : S 30 4 = nI t := hr.2.1.2.2.1
  refine aw_aload_n dL_law_317 rfl ?_
  refine aw_callV0e (d := 10) dL_law_318 cmX11_read cvL_37 (hg_c0 hX.1) (Nat.le_of_ble_eq_true rfl) (tX11_read (d := 3) hX hG hfm (by unfold rL; rw [eR, nI_clamp (by omega)]) (by unfold rL; rw [eR, nI_clamp (by omega)]; exact ht)) (fun r n1 hh1 hq => ?_)
  obtain ⟨rfl, rfl, hX1, ho1⟩ := hq
  have hMo1 := mo_off hMo ho1 (Or.inr (Nat.le_refl _))
  refine aw_aload_n dL_law_321 rfl ?_
  refine aw_callV0e (d := 10) dL_law_322 cmX12_read cvL_40 (mo_c0 hMo1) (Nat.le_of_ble_eq_true rfl) (tX12_read (d := 4) hMo1 eS4 ht) (fun r n2 hh2 hq => ?_)
  obtain ⟨rfl, rfl, hMo2, ho2⟩ := hq
  have hti := tie_read hr
  refine aw_icmp_eq (tgt := 1067) dL_law_325 (by decide) (fun _ => ?_) (fun c => absurd hti.1 c)
  exact K _ _ _ _ _ (lw_fin hX1 ho1 hMo2 ho2 hti hi hok hn) hb1 hb2
set_option maxHeartbeats 1000000 in
set_option maxRecDepth 100000 in
theorem lc_6 (hG : E.2.2.2 = gV E.2.2.1 adK adV fm sb sL xs) (hfm : fm.category = 1) (hL : i0 + 5 ≤ sL) (hL2 : sL ≤ 2560) (K : lK l E Z sb b i0) {n kc bc bs : Nat} {h : ah} (hw : lwW b n h kc) (hb1 : 20 * kc ≤ bc) (hb2 : 191 * kc ≤ bs) : aw l E mL_law Z 11 bc bs 330 (lls sb b i0) [] n h := by
  obtain ⟨g, ⟨C, L, T, A, R, V⟩, S, Lm, Im, hX, hMo, ⟨M, N, u, t, hr⟩, hi, hok, hn⟩ := hw
  have h1 : tRel T S M N u := hr.1
  have hM6 : M ≤ 6 := h1.1.1
  have hN6 : N ≤ 6 := h1.1.2.1
  have hu8 : u ≤ 8 := h1.1.2.2
  have eT0 : T 10 0 = nI M := h1.2.1.1
  have eS0 : S 30 0 = nI M := h1.2.1.2.1
  have eT3 : T 10 3 = nI N := h1.2.1.2.2.2.2.1
  have eS3 : S 30 3 = nI N := h1.2.1.2.2.2.2.2.1
  have eu : S 30 9 = nI u := h1.2.1.2.2.2.2.2.2.2
  have ht : t ≤ 150 := hr.2.1.1
  have eR : R 10 0 = nI t := hr.2.1.2.1
  have eS4 : S 30 4 = nI t := hr.2.1.2.2.1
  refine aw_aload_n dL_law_330 rfl ?_
  refine aw_aload_n dL_law_331 rfl ?_
  refine aw_iload_n dL_law_332 rfl ?_
  refine aw_iconst (v := 1) dL_law_333 (by decide) ?_
  refine aw_iadd dL_law_334 ?_
  refine aw_sld hG dL_law_335 (nI_add i0 1) (by omega) (by omega) ?_
  refine aw_aload_n dL_law_336 rfl ?_
  refine aw_iload_n dL_law_337 rfl ?_
  refine aw_iconst (v := 2) dL_law_338 (by decide) ?_
  refine aw_iadd dL_law_339 ?_
  refine aw_sld hG dL_law_340 (nI_add i0 2) (by omega) (by omega) ?_
  refine aw_callV2e (d := 10) dL_law_341 cmX11_lie cvL_41 (hg_c0 hX.1) (Nat.le_of_ble_eq_true rfl) (tX11_lie (d := 6) hX) (fun r n1 hh1 hq => ?_)
  obtain ⟨rfl, rfl, hX1, ho1⟩ := hq
  have hMo1 := mo_off hMo ho1 (Or.inr (Nat.le_refl _))
  refine aw_aload_n dL_law_344 rfl ?_
  refine aw_aload_n dL_law_345 rfl ?_
  refine aw_iload_n dL_law_346 rfl ?_
  refine aw_iconst (v := 1) dL_law_347 (by decide) ?_
  refine aw_iadd dL_law_348 ?_
  refine aw_sld hG dL_law_349 (nI_add i0 1) (by omega) (by omega) ?_
  refine aw_aload_n dL_law_350 rfl ?_
  refine aw_iload_n dL_law_351 rfl ?_
  refine aw_iconst (v := 2) dL_law_352 (by decide) ?_
  refine aw_iadd dL_law_353 ?_
  refine aw_sld hG dL_law_354 (nI_add i0 2) (by omega) (by omega) ?_
  refine aw_callV2e (d := 10) dL_law_355 cmX12_lie cvL_45 (mo_c0 hMo1) (Nat.le_of_ble_eq_true rfl) (tX12_lie (d := 7) hMo1 eS0 hM6 eu hu8) (fun r n2 hh2 hq => ?_)
  obtain ⟨rfl, rfl, hMo2, ho2⟩ := hq
  have hti := tie_lie hr (xs (i0 + 1)) (xs (i0 + 2))
  refine aw_icmp_eq (tgt := 1067) dL_law_358 (by decide) (fun _ => ?_) (fun c => absurd hti.1 c)
  exact K _ _ _ _ _ (lw_fin hX1 ho1 hMo2 ho2 hti hi hok hn) hb1 hb2
set_option maxHeartbeats 1000000 in
set_option maxRecDepth 100000 in
theorem lc_7 (hG : E.2.2.2 = gV E.2.2.1 adK adV fm sb sL xs) (hfm : fm.category = 1) (hL : i0 + 5 ≤ sL) (hL2 : sL ≤ 2560) (K : lK l E Z sb b i0) {n kc bc bs : Nat} {h : ah} (hw : lwW b n h kc) (hb1 : 20 * kc ≤ bc) (hb2 : 191 * kc ≤ bs) : aw l E mL_law Z 11 bc bs 363 (lls sb b i0) [] n h := by
  obtain ⟨g, ⟨C, L, T, A, R, V⟩, S, Lm, Im, hX, hMo, ⟨M, N, u, t, hr⟩, hi, hok, hn⟩ := hw
  have h1 : tRel T S M N u := hr.1
  have hM6 : M ≤ 6 := h1.1.1
  have hN6 : N ≤ 6 := h1.1.2.1
  have hu8 : u ≤ 8 := h1.1.2.2
  have eT0 : T 10 0 = nI M := h1.2.1.1
  have eS0 : S 30 0 = nI M := h1.2.1.2.1
  have eT3 : T 10 3 = nI N := h1.2.1.2.2.2.2.1
  have eS3 : S 30 3 = nI N := h1.2.1.2.2.2.2.2.1
  have eu : S 30 9 = nI u := h1.2.1.2.2.2.2.2.2.2
  have ht : t ≤ 150 := hr.2.1.1
  have eR : R 10 0 = nI t := hr.2.1.2.1
  have eS4 : S 30 4 = nI t := hr.2.1.2.2.1
  refine aw_aload_n dL_law_363 rfl ?_
  refine aw_aload_n dL_law_364 rfl ?_
  refine aw_iload_n dL_law_365 rfl ?_
  refine aw_iconst (v := 1) dL_law_366 (by decide) ?_
  refine aw_iadd dL_law_367 ?_
  refine aw_sld hG dL_law_368 (nI_add i0 1) (by omega) (by omega) ?_
  refine aw_aload_n dL_law_369 rfl ?_
  refine aw_iload_n dL_law_370 rfl ?_
  refine aw_iconst (v := 2) dL_law_371 (by decide) ?_
  refine aw_iadd dL_law_372 ?_
  refine aw_sld hG dL_law_373 (nI_add i0 2) (by omega) (by omega) ?_
  refine aw_aload_n dL_law_374 rfl ?_
  refine aw_iload_n dL_law_375 rfl ?_
  refine aw_iconst (v := 3) dL_law_376 (by decide) ?_
  refine aw_iadd dL_law_377 ?_
  refine aw_sld hG dL_law_378 (nI_add i0 3) (by omega) (by omega) ?_
  refine aw_callV3e (d := 10) dL_law_379 cmX11_give cvL_46 (hg_c0 hX.1) (Nat.le_of_ble_eq_true rfl) (tX11_give (d := 7) hX) (fun r n1 hh1 hq => ?_)
  obtain ⟨rfl, rfl, hX1, ho1⟩ := hq
  have hMo1 := mo_off hMo ho1 (Or.inr (Nat.le_refl _))
  refine aw_aload_n dL_law_382 rfl ?_
  refine aw_aload_n dL_law_383 rfl ?_
  refine aw_iload_n dL_law_384 rfl ?_
  refine aw_iconst (v := 1) dL_law_385 (by decide) ?_
  refine aw_iadd dL_law_386 ?_
  refine aw_sld hG dL_law_387 (nI_add i0 1) (by omega) (by omega) ?_
  refine aw_aload_n dL_law_388 rfl ?_
  refine aw_iload_n dL_law_389 rfl ?_
  refine aw_iconst (v := 2) dL_law_390 (by decide) ?_
  refine aw_iadd dL_law_391 ?_
  refine aw_sld hG dL_law_392 (nI_add i0 2) (by omega) (by omega) ?_
  refine aw_aload_n dL_law_393 rfl ?_
  refine aw_iload_n dL_law_394 rfl ?_
  refine aw_iconst (v := 3) dL_law_395 (by decide) ?_
  refine aw_iadd dL_law_396 ?_
  refine aw_sld hG dL_law_397 (nI_add i0 3) (by omega) (by omega) ?_
  refine aw_callV3e (d := 10) dL_law_398 cmX12_give cvL_49 (mo_c0 hMo1) (Nat.le_of_ble_eq_true rfl) (tX12_give (d := 8) hMo1 eS0 hM6 eu hu8) (fun r n2 hh2 hq => ?_)
  obtain ⟨rfl, rfl, hMo2, ho2⟩ := hq
  have hti := tie_give hr (xs (i0 + 1)) (xs (i0 + 2)) (xs (i0 + 3))
  refine aw_icmp_eq (tgt := 1067) dL_law_401 (by decide) (fun _ => ?_) (fun c => absurd hti.1 c)
  exact K _ _ _ _ _ (lw_fin hX1 ho1 hMo2 ho2 hti hi hok hn) hb1 hb2
set_option maxHeartbeats 1000000 in
set_option maxRecDepth 100000 in
theorem lc_8 (hG : E.2.2.2 = gV E.2.2.1 adK adV fm sb sL xs) (hfm : fm.category = 1) (hL : i0 + 5 ≤ sL) (hL2 : sL ≤ 2560) (K : lK l E Z sb b i0) {n kc bc bs : Nat} {h : ah} (hw : lwW b n h kc) (hb1 : 20 * kc ≤ bc) (hb2 : 191 * kc ≤ bs) : aw l E mL_law Z 11 bc bs 406 (lls sb b i0) [] n h := by
  obtain ⟨g, ⟨C, L, T, A, R, V⟩, S, Lm, Im, hX, hMo, ⟨M, N, u, t, hr⟩, hi, hok, hn⟩ := hw
  have h1 : tRel T S M N u := hr.1
  have hM6 : M ≤ 6 := h1.1.1
  have hN6 : N ≤ 6 := h1.1.2.1
  have hu8 : u ≤ 8 := h1.1.2.2
  have eT0 : T 10 0 = nI M := h1.2.1.1
  have eS0 : S 30 0 = nI M := h1.2.1.2.1
  have eT3 : T 10 3 = nI N := h1.2.1.2.2.2.2.1
  have eS3 : S 30 3 = nI N := h1.2.1.2.2.2.2.2.1
  have eu : S 30 9 = nI u := h1.2.1.2.2.2.2.2.2.2
  have ht : t ≤ 150 := hr.2.1.1
  have eR : R 10 0 = nI t := hr.2.1.2.1
  have eS4 : S 30 4 = nI t := hr.2.1.2.2.1
  refine aw_aload_n dL_law_406 rfl ?_
  refine aw_callV0e (d := 10) dL_law_407 cmX11_day cvL_50 (hg_c0 hX.1) (Nat.le_of_ble_eq_true rfl) (tX11_day (d := 6) hX) (fun r n1 hh1 hq => ?_)
  obtain ⟨rfl, rfl, hX1, ho1⟩ := hq
  have hMo1 := mo_off hMo ho1 (Or.inr (Nat.le_refl _))
  refine aw_aload_n dL_law_410 rfl ?_
  refine aw_callV0e (d := 10) dL_law_411 cmX12_day cvL_53 (mo_c0 hMo1) (Nat.le_of_ble_eq_true rfl) (tX12_day (d := 8) hMo1 eS0 hM6 eu hu8) (fun r n2 hh2 hq => ?_)
  obtain ⟨rfl, rfl, hMo2, ho2⟩ := hq
  have hti := tie_day hr
  refine aw_icmp_eq (tgt := 1067) dL_law_414 (by decide) (fun _ => ?_) (fun c => absurd hti.1 c)
  exact K _ _ _ _ _ (lw_fin hX1 ho1 hMo2 ho2 hti hi hok hn) hb1 hb2
set_option maxHeartbeats 1000000 in
set_option maxRecDepth 100000 in
theorem lc_9 (hG : E.2.2.2 = gV E.2.2.1 adK adV fm sb sL xs) (hfm : fm.category = 1) (hL : i0 + 5 ≤ sL) (hL2 : sL ≤ 2560) (K : lK l E Z sb b i0) {n kc bc bs : Nat} {h : ah} (hw : lwW b n h kc) (hb1 : 20 * kc ≤ bc) (hb2 : 191 * kc ≤ bs) : aw l E mL_law Z 11 bc bs 419 (lls sb b i0) [] n h := by
  obtain ⟨g, ⟨C, L, T, A, R, V⟩, S, Lm, Im, hX, hMo, ⟨M, N, u, t, hr⟩, hi, hok, hn⟩ := hw
  have h1 : tRel T S M N u := hr.1
  have hM6 : M ≤ 6 := h1.1.1
  have hN6 : N ≤ 6 := h1.1.2.1
  have hu8 : u ≤ 8 := h1.1.2.2
  have eT0 : T 10 0 = nI M := h1.2.1.1
  have eS0 : S 30 0 = nI M := h1.2.1.2.1
  have eT3 : T 10 3 = nI N := h1.2.1.2.2.2.2.1
  have eS3 : S 30 3 = nI N := h1.2.1.2.2.2.2.2.1
  have eu : S 30 9 = nI u := h1.2.1.2.2.2.2.2.2.2
  have ht : t ≤ 150 := hr.2.1.1
  have eR : R 10 0 = nI t := hr.2.1.2.1
  have eS4 : S 30 4 = nI t := hr.2.1.2.2.1
  refine aw_aload_n dL_law_419 rfl ?_
  refine aw_callV0e (d := 10) dL_law_420 cmX11_undo cvL_54 (hg_c0 hX.1) (Nat.le_of_ble_eq_true rfl) (tX11_undo (d := 7) hX) (fun r n1 hh1 hq => ?_)
  obtain ⟨rfl, rfl, hX1, ho1⟩ := hq
  have hMo1 := mo_off hMo ho1 (Or.inr (Nat.le_refl _))
  refine aw_aload_n dL_law_423 rfl ?_
  refine aw_callV0e (d := 10) dL_law_424 cmX12_undo cvL_57 (mo_c0 hMo1) (Nat.le_of_ble_eq_true rfl) (tX12_undo (d := 9) hMo1 eu hu8) (fun r n2 hh2 hq => ?_)
  obtain ⟨rfl, rfl, hMo2, ho2⟩ := hq
  have hti := tie_undo hr
  refine aw_icmp_eq (tgt := 1067) dL_law_427 (by decide) (fun _ => ?_) (fun c => absurd hti.1 c)
  exact K _ _ _ _ _ (lw_fin hX1 ho1 hMo2 ho2 hti hi hok hn) hb1 hb2
set_option maxHeartbeats 1000000 in
set_option maxRecDepth 100000 in
theorem lc_10 (hG : E.2.2.2 = gV E.2.2.1 adK adV fm sb sL xs) (hfm : fm.category = 1) (hL : i0 + 5 ≤ sL) (hL2 : sL ≤ 2560) (K : lK l E Z sb b i0) {n kc bc bs : Nat} {h : ah} (hw : lwW b n h kc) (hb1 : 20 * kc ≤ bc) (hb2 : 191 * kc ≤ bs) : aw l E mL_law Z 11 bc bs 432 (lls sb b i0) [] n h := by
  obtain ⟨g, ⟨C, L, T, A, R, V⟩, S, Lm, Im, hX, hMo, ⟨M, N, u, t, hr⟩, hi, hok, hn⟩ := hw
  have h1 : tRel T S M N u := hr.1
  have hM6 : M ≤ 6 := h1.1.1
  have hN6 : N ≤ 6 := h1.1.2.1
  have hu8 : u ≤ 8 := h1.1.2.2
  have eT0 : T 10 0 = nI M := h1.2.1.1
  have eS0 : S 30 0 = nI M := h1.2.1.2.1
  have eT3 : T 10 3 = nI N := h1.2.1.2.2.2.2.1
  have eS3 : S 30 3 = nI N := h1.2.1.2.2.2.2.2.1
  have eu : S 30 9 = nI u := h1.2.1.2.2.2.2.2.2.2
  have ht : t ≤ 150 := hr.2.1.1
  have eR : R 10 0 = nI t := hr.2.1.2.1
  have eS4 : S 30 4 = nI t := hr.2.1.2.2.1
  refine aw_aload_n dL_law_432 rfl ?_
  refine aw_aload_n dL_law_433 rfl ?_
  refine aw_iload_n dL_law_434 rfl ?_
  refine aw_iconst (v := 1) dL_law_435 (by decide) ?_
  refine aw_iadd dL_law_436 ?_
  refine aw_sld hG dL_law_437 (nI_add i0 1) (by omega) (by omega) ?_
  refine aw_aload_n dL_law_438 rfl ?_
  refine aw_iload_n dL_law_439 rfl ?_
  refine aw_iconst (v := 2) dL_law_440 (by decide) ?_
  refine aw_iadd dL_law_441 ?_
  refine aw_sld hG dL_law_442 (nI_add i0 2) (by omega) (by omega) ?_
  refine aw_callV2e (d := 10) dL_law_443 cmX11_of cvL_58 (hg_c0 hX.1) (Nat.le_of_ble_eq_true rfl) (tX11_of (d := 5) hX) (fun r n1 hh1 hq => ?_)
  obtain ⟨rfl, rfl, hX1, ho1⟩ := hq
  have hMo1 := mo_off hMo ho1 (Or.inr (Nat.le_refl _))
  refine aw_aload_n dL_law_446 rfl ?_
  refine aw_aload_n dL_law_447 rfl ?_
  refine aw_iload_n dL_law_448 rfl ?_
  refine aw_iconst (v := 1) dL_law_449 (by decide) ?_
  refine aw_iadd dL_law_450 ?_
  refine aw_sld hG dL_law_451 (nI_add i0 1) (by omega) (by omega) ?_
  refine aw_aload_n dL_law_452 rfl ?_
  refine aw_iload_n dL_law_453 rfl ?_
  refine aw_iconst (v := 2) dL_law_454 (by decide) ?_
  refine aw_iadd dL_law_455 ?_
  refine aw_sld hG dL_law_456 (nI_add i0 2) (by omega) (by omega) ?_
  refine aw_callV2e (d := 10) dL_law_457 cmX12_of cvL_61 (mo_c0 hMo1) (Nat.le_of_ble_eq_true rfl) (tX12_of (d := 6) hMo1 eS0 hM6) (fun r n2 hh2 hq => ?_)
  obtain ⟨rfl, rfl, hMo2, ho2⟩ := hq
  have hti := tie_of hr (xs (i0 + 1)) (xs (i0 + 2))
  refine aw_icmp_eq (tgt := 1067) dL_law_460 (by decide) (fun _ => ?_) (fun c => absurd hti.1 c)
  exact K _ _ _ _ _ (lw_fin hX1 ho1 hMo2 ho2 hti hi hok hn) hb1 hb2
set_option maxHeartbeats 1000000 in
set_option maxRecDepth 100000 in
theorem lc_11 (hG : E.2.2.2 = gV E.2.2.1 adK adV fm sb sL xs) (hfm : fm.category = 1) (hL : i0 + 5 ≤ sL) (hL2 : sL ≤ 2560) (K : lK l E Z sb b i0) {n kc bc bs : Nat} {h : ah} (hw : lwW b n h kc) (hb1 : 20 * kc ≤ bc) (hb2 : 191 * kc ≤ bs) : aw l E mL_law Z 11 bc bs 465 (lls sb b i0) [] n h := by
  obtain ⟨g, ⟨C, L, T, A, R, V⟩, S, Lm, Im, hX, hMo, ⟨M, N, u, t, hr⟩, hi, hok, hn⟩ := hw
  have h1 : tRel T S M N u := hr.1
  have hM6 : M ≤ 6 := h1.1.1
  have hN6 : N ≤ 6 := h1.1.2.1
  have hu8 : u ≤ 8 := h1.1.2.2
  have eT0 : T 10 0 = nI M := h1.2.1.1
  have eS0 : S 30 0 = nI M := h1.2.1.2.1
  have eT3 : T 10 3 = nI N := h1.2.1.2.2.2.2.1
  have eS3 : S 30 3 = nI N := h1.2.1.2.2.2.2.2.1
  have eu : S 30 9 = nI u := h1.2.1.2.2.2.2.2.2.2
  have ht : t ≤ 150 := hr.2.1.1
  have eR : R 10 0 = nI t := hr.2.1.2.1
  have eS4 : S 30 4 = nI t := hr.2.1.2.2.1
  refine aw_aload_n dL_law_465 rfl ?_
  refine aw_aload_n dL_law_466 rfl ?_
  refine aw_iload_n dL_law_467 rfl ?_
  refine aw_iconst (v := 1) dL_law_468 (by decide) ?_
  refine aw_iadd dL_law_469 ?_
  refine aw_sld hG dL_law_470 (nI_add i0 1) (by omega) (by omega) ?_
  refine aw_aload_n dL_law_471 rfl ?_
  refine aw_iload_n dL_law_472 rfl ?_
  refine aw_iconst (v := 2) dL_law_473 (by decide) ?_
  refine aw_iadd dL_law_474 ?_
  refine aw_sld hG dL_law_475 (nI_add i0 2) (by omega) (by omega) ?_
  refine aw_callV2e (d := 10) dL_law_476 cmX11_weighs cvL_62 (hg_c0 hX.1) (Nat.le_of_ble_eq_true rfl) (tX11_weighs (d := 6) hX) (fun r n1 hh1 hq => ?_)
  obtain ⟨rfl, rfl, hX1, ho1⟩ := hq
  have hMo1 := mo_off hMo ho1 (Or.inr (Nat.le_refl _))
  refine aw_aload_n dL_law_479 rfl ?_
  refine aw_aload_n dL_law_480 rfl ?_
  refine aw_iload_n dL_law_481 rfl ?_
  refine aw_iconst (v := 1) dL_law_482 (by decide) ?_
  refine aw_iadd dL_law_483 ?_
  refine aw_sld hG dL_law_484 (nI_add i0 1) (by omega) (by omega) ?_
  refine aw_aload_n dL_law_485 rfl ?_
  refine aw_iload_n dL_law_486 rfl ?_
  refine aw_iconst (v := 2) dL_law_487 (by decide) ?_
  refine aw_iadd dL_law_488 ?_
  refine aw_sld hG dL_law_489 (nI_add i0 2) (by omega) (by omega) ?_
  refine aw_callV2e (d := 10) dL_law_490 cmX12_weighs cvL_65 (mo_c0 hMo1) (Nat.le_of_ble_eq_true rfl) (tX12_weighs (d := 7) hMo1 eS0 hM6) (fun r n2 hh2 hq => ?_)
  obtain ⟨rfl, rfl, hMo2, ho2⟩ := hq
  have hti := tie_weighs hr (xs (i0 + 1)) (xs (i0 + 2))
  refine aw_icmp_eq (tgt := 1067) dL_law_493 (by decide) (fun _ => ?_) (fun c => absurd hti.1 c)
  exact K _ _ _ _ _ (lw_fin hX1 ho1 hMo2 ho2 hti hi hok hn) hb1 hb2
set_option maxHeartbeats 1000000 in
set_option maxRecDepth 100000 in
theorem lc_12 (hG : E.2.2.2 = gV E.2.2.1 adK adV fm sb sL xs) (hfm : fm.category = 1) (hL : i0 + 5 ≤ sL) (hL2 : sL ≤ 2560) (K : lK l E Z sb b i0) {n kc bc bs : Nat} {h : ah} (hw : lwW b n h kc) (hb1 : 20 * kc ≤ bc) (hb2 : 191 * kc ≤ bs) : aw l E mL_law Z 11 bc bs 498 (lls sb b i0) [] n h := by
  obtain ⟨g, ⟨C, L, T, A, R, V⟩, S, Lm, Im, hX, hMo, ⟨M, N, u, t, hr⟩, hi, hok, hn⟩ := hw
  have h1 : tRel T S M N u := hr.1
  have hM6 : M ≤ 6 := h1.1.1
  have hN6 : N ≤ 6 := h1.1.2.1
  have hu8 : u ≤ 8 := h1.1.2.2
  have eT0 : T 10 0 = nI M := h1.2.1.1
  have eS0 : S 30 0 = nI M := h1.2.1.2.1
  have eT3 : T 10 3 = nI N := h1.2.1.2.2.2.2.1
  have eS3 : S 30 3 = nI N := h1.2.1.2.2.2.2.2.1
  have eu : S 30 9 = nI u := h1.2.1.2.2.2.2.2.2.2
  have ht : t ≤ 150 := hr.2.1.1
  have eR : R 10 0 = nI t := hr.2.1.2.1
  have eS4 : S 30 4 = nI t := hr.2.1.2.2.1
  refine aw_aload_n dL_law_498 rfl ?_
  refine aw_callV0e (d := 10) dL_law_499 cmX11_all cvL_66 (hg_c0 hX.1) (Nat.le_of_ble_eq_true rfl) (tX11_all (d := 4) hX) (fun r n1 hh1 hq => ?_)
  obtain ⟨rfl, rfl, hX1, ho1⟩ := hq
  have hMo1 := mo_off hMo ho1 (Or.inr (Nat.le_refl _))
  refine aw_aload_n dL_law_502 rfl ?_
  refine aw_callV0p (d := 10) dL_law_503 cmX12_all cvL_69 (mo_c0 hMo1) (Nat.le_of_ble_eq_true rfl) (tX12_all (d := 6) hMo1 eS0 hM6) ?_
  have hti := tie_all hr
  refine aw_icmp_eq (tgt := 1067) dL_law_506 (by decide) (fun _ => ?_) (fun c => absurd hti.1 c)
  exact K _ _ _ _ _ (lw_fin hX1 ho1 (G := mAll S Lm) hMo1 ah_off.rf hti hi hok hn) hb1 hb2
set_option maxHeartbeats 1000000 in
set_option maxRecDepth 100000 in
theorem lc_13 (hG : E.2.2.2 = gV E.2.2.1 adK adV fm sb sL xs) (hfm : fm.category = 1) (hL : i0 + 5 ≤ sL) (hL2 : sL ≤ 2560) (K : lK l E Z sb b i0) {n kc bc bs : Nat} {h : ah} (hw : lwW b n h kc) (hb1 : 20 * kc ≤ bc) (hb2 : 191 * kc ≤ bs) : aw l E mL_law Z 11 bc bs 511 (lls sb b i0) [] n h := by
  obtain ⟨g, ⟨C, L, T, A, R, V⟩, S, Lm, Im, hX, hMo, ⟨M, N, u, t, hr⟩, hi, hok, hn⟩ := hw
  have h1 : tRel T S M N u := hr.1
  have hM6 : M ≤ 6 := h1.1.1
  have hN6 : N ≤ 6 := h1.1.2.1
  have hu8 : u ≤ 8 := h1.1.2.2
  have eT0 : T 10 0 = nI M := h1.2.1.1
  have eS0 : S 30 0 = nI M := h1.2.1.2.1
  have eT3 : T 10 3 = nI N := h1.2.1.2.2.2.2.1
  have eS3 : S 30 3 = nI N := h1.2.1.2.2.2.2.2.1
  have eu : S 30 9 = nI u := h1.2.1.2.2.2.2.2.2.2
  have ht : t ≤ 150 := hr.2.1.1
  have eR : R 10 0 = nI t := hr.2.1.2.1
  have eS4 : S 30 4 = nI t := hr.2.1.2.2.1
  refine aw_aload_n dL_law_511 rfl ?_
  refine aw_aload_n dL_law_512 rfl ?_
  refine aw_iload_n dL_law_513 rfl ?_
  refine aw_iconst (v := 1) dL_law_514 (by decide) ?_
  refine aw_iadd dL_law_515 ?_
  refine aw_sld hG dL_law_516 (nI_add i0 1) (by omega) (by omega) ?_
  refine aw_aload_n dL_law_517 rfl ?_
  refine aw_iload_n dL_law_518 rfl ?_
  refine aw_iconst (v := 2) dL_law_519 (by decide) ?_
  refine aw_iadd dL_law_520 ?_
  refine aw_sld hG dL_law_521 (nI_add i0 2) (by omega) (by omega) ?_
  refine aw_callV2e (d := 10) dL_law_522 cmX11_when cvL_70 (hg_c0 hX.1) (Nat.le_of_ble_eq_true rfl) (tX11_when (d := 5) hX) (fun r n1 hh1 hq => ?_)
  obtain ⟨rfl, rfl, hX1, ho1⟩ := hq
  have hMo1 := mo_off hMo ho1 (Or.inr (Nat.le_refl _))
  refine aw_aload_n dL_law_525 rfl ?_
  refine aw_aload_n dL_law_526 rfl ?_
  refine aw_iload_n dL_law_527 rfl ?_
  refine aw_iconst (v := 1) dL_law_528 (by decide) ?_
  refine aw_iadd dL_law_529 ?_
  refine aw_sld hG dL_law_530 (nI_add i0 1) (by omega) (by omega) ?_
  refine aw_aload_n dL_law_531 rfl ?_
  refine aw_iload_n dL_law_532 rfl ?_
  refine aw_iconst (v := 2) dL_law_533 (by decide) ?_
  refine aw_iadd dL_law_534 ?_
  refine aw_sld hG dL_law_535 (nI_add i0 2) (by omega) (by omega) ?_
  refine aw_callV2e (d := 10) dL_law_536 cmX12_when cvL_73 (mo_c0 hMo1) (Nat.le_of_ble_eq_true rfl) (tX12_when (d := 8) hMo1 eS0 hM6) (fun r n2 hh2 hq => ?_)
  obtain ⟨rfl, rfl, hMo2, ho2⟩ := hq
  have hti := tie_when hr (xs (i0 + 1)) (xs (i0 + 2))
  refine aw_icmp_eq (tgt := 1067) dL_law_539 (by decide) (fun _ => ?_) (fun c => absurd hti.1 c)
  exact K _ _ _ _ _ (lw_fin hX1 ho1 hMo2 ho2 hti hi hok hn) hb1 hb2
set_option maxHeartbeats 1000000 in
set_option maxRecDepth 100000 in
theorem lc_14 (hG : E.2.2.2 = gV E.2.2.1 adK adV fm sb sL xs) (hfm : fm.category = 1) (hL : i0 + 5 ≤ sL) (hL2 : sL ≤ 2560) (K : lK l E Z sb b i0) {n kc bc bs : Nat} {h : ah} (hw : lwW b n h kc) (hb1 : 20 * kc ≤ bc) (hb2 : 191 * kc ≤ bs) : aw l E mL_law Z 11 bc bs 544 (lls sb b i0) [] n h := by
  obtain ⟨g, ⟨C, L, T, A, R, V⟩, S, Lm, Im, hX, hMo, ⟨M, N, u, t, hr⟩, hi, hok, hn⟩ := hw
  have h1 : tRel T S M N u := hr.1
  have hM6 : M ≤ 6 := h1.1.1
  have hN6 : N ≤ 6 := h1.1.2.1
  have hu8 : u ≤ 8 := h1.1.2.2
  have eT0 : T 10 0 = nI M := h1.2.1.1
  have eS0 : S 30 0 = nI M := h1.2.1.2.1
  have eT3 : T 10 3 = nI N := h1.2.1.2.2.2.2.1
  have eS3 : S 30 3 = nI N := h1.2.1.2.2.2.2.2.1
  have eu : S 30 9 = nI u := h1.2.1.2.2.2.2.2.2.2
  have ht : t ≤ 150 := hr.2.1.1
  have eR : R 10 0 = nI t := hr.2.1.2.1
  have eS4 : S 30 4 = nI t := hr.2.1.2.2.1
  refine aw_aload_n dL_law_544 rfl ?_
  refine aw_aload_n dL_law_545 rfl ?_
  refine aw_iload_n dL_law_546 rfl ?_
  refine aw_iconst (v := 1) dL_law_547 (by decide) ?_
  refine aw_iadd dL_law_548 ?_
  refine aw_sld hG dL_law_549 (nI_add i0 1) (by omega) (by omega) ?_
  refine aw_aload_n dL_law_550 rfl ?_
  refine aw_iload_n dL_law_551 rfl ?_
  refine aw_iconst (v := 2) dL_law_552 (by decide) ?_
  refine aw_iadd dL_law_553 ?_
  refine aw_sld hG dL_law_554 (nI_add i0 2) (by omega) (by omega) ?_
  refine aw_aload_n dL_law_555 rfl ?_
  refine aw_iload_n dL_law_556 rfl ?_
  refine aw_iconst (v := 3) dL_law_557 (by decide) ?_
  refine aw_iadd dL_law_558 ?_
  refine aw_sld hG dL_law_559 (nI_add i0 3) (by omega) (by omega) ?_
  refine aw_aload_n dL_law_560 rfl ?_
  refine aw_iload_n dL_law_561 rfl ?_
  refine aw_iconst (v := 4) dL_law_562 (by decide) ?_
  refine aw_iadd dL_law_563 ?_
  refine aw_sld hG dL_law_564 (nI_add i0 4) (by omega) (by omega) ?_
  refine aw_callV4e (d := 10) dL_law_565 cmX11_bag cvL_74 (hg_c0 hX.1) (Nat.le_of_ble_eq_true rfl) (tX11_bag (d := 4) hX) (fun r n1 hh1 hq => ?_)
  obtain ⟨rfl, rfl, hX1, ho1⟩ := hq
  have hMo1 := mo_off hMo ho1 (Or.inr (Nat.le_refl _))
  refine aw_aload_n dL_law_568 rfl ?_
  refine aw_aload_n dL_law_569 rfl ?_
  refine aw_iload_n dL_law_570 rfl ?_
  refine aw_iconst (v := 1) dL_law_571 (by decide) ?_
  refine aw_iadd dL_law_572 ?_
  refine aw_sld hG dL_law_573 (nI_add i0 1) (by omega) (by omega) ?_
  refine aw_aload_n dL_law_574 rfl ?_
  refine aw_iload_n dL_law_575 rfl ?_
  refine aw_iconst (v := 2) dL_law_576 (by decide) ?_
  refine aw_iadd dL_law_577 ?_
  refine aw_sld hG dL_law_578 (nI_add i0 2) (by omega) (by omega) ?_
  refine aw_aload_n dL_law_579 rfl ?_
  refine aw_iload_n dL_law_580 rfl ?_
  refine aw_iconst (v := 3) dL_law_581 (by decide) ?_
  refine aw_iadd dL_law_582 ?_
  refine aw_sld hG dL_law_583 (nI_add i0 3) (by omega) (by omega) ?_
  refine aw_aload_n dL_law_584 rfl ?_
  refine aw_iload_n dL_law_585 rfl ?_
  refine aw_iconst (v := 4) dL_law_586 (by decide) ?_
  refine aw_iadd dL_law_587 ?_
  refine aw_sld hG dL_law_588 (nI_add i0 4) (by omega) (by omega) ?_
  refine aw_callV4e (d := 10) dL_law_589 cmX12_bag cvL_77 (mo_c0 hMo1) (Nat.le_of_ble_eq_true rfl) (tX12_bag (d := 6) hMo1 eS0 hM6 (fun q1 q2 _ _ q5 => bag_sz h1 q1 q2 q5)) (fun r n2 hh2 hq => ?_)
  obtain ⟨rfl, rfl, hMo2, ho2⟩ := hq
  have hti := tie_bag hr (xs (i0 + 1)) (xs (i0 + 2)) (xs (i0 + 3)) (xs (i0 + 4))
  refine aw_icmp_eq (tgt := 1067) dL_law_592 (by decide) (fun _ => ?_) (fun c => absurd hti.1 c)
  exact K _ _ _ _ _ (lw_fin hX1 ho1 hMo2 ho2 hti hi hok hn) hb1 hb2
set_option maxHeartbeats 1000000 in
set_option maxRecDepth 100000 in
theorem lc_15 (hG : E.2.2.2 = gV E.2.2.1 adK adV fm sb sL xs) (hfm : fm.category = 1) (hL : i0 + 5 ≤ sL) (hL2 : sL ≤ 2560) (K : lK l E Z sb b i0) {n kc bc bs : Nat} {h : ah} (hw : lwW b n h kc) (hb1 : 20 * kc ≤ bc) (hb2 : 191 * kc ≤ bs) : aw l E mL_law Z 11 bc bs 597 (lls sb b i0) [] n h := by
  obtain ⟨g, ⟨C, L, T, A, R, V⟩, S, Lm, Im, hX, hMo, ⟨M, N, u, t, hr⟩, hi, hok, hn⟩ := hw
  have h1 : tRel T S M N u := hr.1
  have hM6 : M ≤ 6 := h1.1.1
  have hN6 : N ≤ 6 := h1.1.2.1
  have hu8 : u ≤ 8 := h1.1.2.2
  have eT0 : T 10 0 = nI M := h1.2.1.1
  have eS0 : S 30 0 = nI M := h1.2.1.2.1
  have eT3 : T 10 3 = nI N := h1.2.1.2.2.2.2.1
  have eS3 : S 30 3 = nI N := h1.2.1.2.2.2.2.2.1
  have eu : S 30 9 = nI u := h1.2.1.2.2.2.2.2.2.2
  have ht : t ≤ 150 := hr.2.1.1
  have eR : R 10 0 = nI t := hr.2.1.2.1
  have eS4 : S 30 4 = nI t := hr.2.1.2.2.1
  refine aw_aload_n dL_law_597 rfl ?_
  refine aw_aload_n dL_law_598 rfl ?_
  refine aw_iload_n dL_law_599 rfl ?_
  refine aw_iconst (v := 1) dL_law_600 (by decide) ?_
  refine aw_iadd dL_law_601 ?_
  refine aw_sld hG dL_law_602 (nI_add i0 1) (by omega) (by omega) ?_
  refine aw_aload_n dL_law_603 rfl ?_
  refine aw_iload_n dL_law_604 rfl ?_
  refine aw_iconst (v := 2) dL_law_605 (by decide) ?_
  refine aw_iadd dL_law_606 ?_
  refine aw_sld hG dL_law_607 (nI_add i0 2) (by omega) (by omega) ?_
  refine aw_callV2e (d := 10) dL_law_608 cmX11_debt cvL_78 (hg_c0 hX.1) (Nat.le_of_ble_eq_true rfl) (tX11_debt (d := 5) hX) (fun r n1 hh1 hq => ?_)
  obtain ⟨rfl, rfl, hX1, ho1⟩ := hq
  have hMo1 := mo_off hMo ho1 (Or.inr (Nat.le_refl _))
  refine aw_aload_n dL_law_611 rfl ?_
  refine aw_aload_n dL_law_612 rfl ?_
  refine aw_iload_n dL_law_613 rfl ?_
  refine aw_iconst (v := 1) dL_law_614 (by decide) ?_
  refine aw_iadd dL_law_615 ?_
  refine aw_sld hG dL_law_616 (nI_add i0 1) (by omega) (by omega) ?_
  refine aw_aload_n dL_law_617 rfl ?_
  refine aw_iload_n dL_law_618 rfl ?_
  refine aw_iconst (v := 2) dL_law_619 (by decide) ?_
  refine aw_iadd dL_law_620 ?_
  refine aw_sld hG dL_law_621 (nI_add i0 2) (by omega) (by omega) ?_
  refine aw_callV2e (d := 10) dL_law_622 cmX12_debt cvL_81 (mo_c0 hMo1) (Nat.le_of_ble_eq_true rfl) (tX12_debt (d := 7) hMo1 eS0 hM6) (fun r n2 hh2 hq => ?_)
  obtain ⟨rfl, rfl, hMo2, ho2⟩ := hq
  have hti := tie_debt hr (xs (i0 + 1)) (xs (i0 + 2))
  refine aw_icmp_eq (tgt := 1067) dL_law_625 (by decide) (fun _ => ?_) (fun c => absurd hti.1 c)
  exact K _ _ _ _ _ (lw_fin hX1 ho1 hMo2 ho2 hti hi hok hn) hb1 hb2
set_option maxHeartbeats 1000000 in
set_option maxRecDepth 100000 in
theorem lc_16 (hG : E.2.2.2 = gV E.2.2.1 adK adV fm sb sL xs) (hfm : fm.category = 1) (hL : i0 + 5 ≤ sL) (hL2 : sL ≤ 2560) (K : lK l E Z sb b i0) {n kc bc bs : Nat} {h : ah} (hw : lwW b n h kc) (hb1 : 20 * kc ≤ bc) (hb2 : 191 * kc ≤ bs) : aw l E mL_law Z 11 bc bs 630 (lls sb b i0) [] n h := by
  obtain ⟨g, ⟨C, L, T, A, R, V⟩, S, Lm, Im, hX, hMo, ⟨M, N, u, t, hr⟩, hi, hok, hn⟩ := hw
  have h1 : tRel T S M N u := hr.1
  have hM6 : M ≤ 6 := h1.1.1
  have hN6 : N ≤ 6 := h1.1.2.1
  have hu8 : u ≤ 8 := h1.1.2.2
  have eT0 : T 10 0 = nI M := h1.2.1.1
  have eS0 : S 30 0 = nI M := h1.2.1.2.1
  have eT3 : T 10 3 = nI N := h1.2.1.2.2.2.2.1
  have eS3 : S 30 3 = nI N := h1.2.1.2.2.2.2.2.1
  have eu : S 30 9 = nI u := h1.2.1.2.2.2.2.2.2.2
  have ht : t ≤ 150 := hr.2.1.1
  have eR : R 10 0 = nI t := hr.2.1.2.1
  have eS4 : S 30 4 = nI t := hr.2.1.2.2.1
  refine aw_aload_n dL_law_630 rfl ?_
  refine aw_aload_n dL_law_631 rfl ?_
  refine aw_iload_n dL_law_632 rfl ?_
  refine aw_iconst (v := 1) dL_law_633 (by decide) ?_
  refine aw_iadd dL_law_634 ?_
  refine aw_sld hG dL_law_635 (nI_add i0 1) (by omega) (by omega) ?_
  refine aw_aload_n dL_law_636 rfl ?_
  refine aw_iload_n dL_law_637 rfl ?_
  refine aw_iconst (v := 2) dL_law_638 (by decide) ?_
  refine aw_iadd dL_law_639 ?_
  refine aw_sld hG dL_law_640 (nI_add i0 2) (by omega) (by omega) ?_
  refine aw_aload_n dL_law_641 rfl ?_
  refine aw_iload_n dL_law_642 rfl ?_
  refine aw_iconst (v := 3) dL_law_643 (by decide) ?_
  refine aw_iadd dL_law_644 ?_
  refine aw_sld hG dL_law_645 (nI_add i0 3) (by omega) (by omega) ?_
  refine aw_callV3e (d := 10) dL_law_646 cmX11_hire cvL_82 (hg_c0 hX.1) (Nat.le_of_ble_eq_true rfl) (tX11_hire (d := 4) hX) (fun r n1 hh1 hq => ?_)
  obtain ⟨rfl, rfl, hX1, ho1⟩ := hq
  have hMo1 := mo_off hMo ho1 (Or.inr (Nat.le_refl _))
  refine aw_aload_n dL_law_649 rfl ?_
  refine aw_aload_n dL_law_650 rfl ?_
  refine aw_iload_n dL_law_651 rfl ?_
  refine aw_iconst (v := 1) dL_law_652 (by decide) ?_
  refine aw_iadd dL_law_653 ?_
  refine aw_sld hG dL_law_654 (nI_add i0 1) (by omega) (by omega) ?_
  refine aw_aload_n dL_law_655 rfl ?_
  refine aw_iload_n dL_law_656 rfl ?_
  refine aw_iconst (v := 2) dL_law_657 (by decide) ?_
  refine aw_iadd dL_law_658 ?_
  refine aw_sld hG dL_law_659 (nI_add i0 2) (by omega) (by omega) ?_
  refine aw_aload_n dL_law_660 rfl ?_
  refine aw_iload_n dL_law_661 rfl ?_
  refine aw_iconst (v := 3) dL_law_662 (by decide) ?_
  refine aw_iadd dL_law_663 ?_
  refine aw_sld hG dL_law_664 (nI_add i0 3) (by omega) (by omega) ?_
  refine aw_callV3e (d := 10) dL_law_665 cmX12_hire cvL_85 (mo_c0 hMo1) (Nat.le_of_ble_eq_true rfl) (tX12_hire (d := 7) hMo1 eS0 hM6) (fun r n2 hh2 hq => ?_)
  obtain ⟨rfl, rfl, hMo2, ho2⟩ := hq
  have hti := tie_hire hr (xs (i0 + 1)) (xs (i0 + 2)) (xs (i0 + 3))
  refine aw_icmp_eq (tgt := 1067) dL_law_668 (by decide) (fun _ => ?_) (fun c => absurd hti.1 c)
  exact K _ _ _ _ _ (lw_fin hX1 ho1 hMo2 ho2 hti hi hok hn) hb1 hb2
set_option maxHeartbeats 1000000 in
set_option maxRecDepth 100000 in
theorem lc_17 (hG : E.2.2.2 = gV E.2.2.1 adK adV fm sb sL xs) (hfm : fm.category = 1) (hL : i0 + 5 ≤ sL) (hL2 : sL ≤ 2560) (K : lK l E Z sb b i0) {n kc bc bs : Nat} {h : ah} (hw : lwW b n h kc) (hb1 : 20 * kc ≤ bc) (hb2 : 191 * kc ≤ bs) : aw l E mL_law Z 11 bc bs 673 (lls sb b i0) [] n h := by
  obtain ⟨g, ⟨C, L, T, A, R, V⟩, S, Lm, Im, hX, hMo, ⟨M, N, u, t, hr⟩, hi, hok, hn⟩ := hw
  have h1 : tRel T S M N u := hr.1
  have hM6 : M ≤ 6 := h1.1.1
  have hN6 : N ≤ 6 := h1.1.2.1
  have hu8 : u ≤ 8 := h1.1.2.2
  have eT0 : T 10 0 = nI M := h1.2.1.1
  have eS0 : S 30 0 = nI M := h1.2.1.2.1
  have eT3 : T 10 3 = nI N := h1.2.1.2.2.2.2.1
  have eS3 : S 30 3 = nI N := h1.2.1.2.2.2.2.2.1
  have eu : S 30 9 = nI u := h1.2.1.2.2.2.2.2.2.2
  have ht : t ≤ 150 := hr.2.1.1
  have eR : R 10 0 = nI t := hr.2.1.2.1
  have eS4 : S 30 4 = nI t := hr.2.1.2.2.1
  refine aw_aload_n dL_law_673 rfl ?_
  refine aw_aload_n dL_law_674 rfl ?_
  refine aw_iload_n dL_law_675 rfl ?_
  refine aw_iconst (v := 1) dL_law_676 (by decide) ?_
  refine aw_iadd dL_law_677 ?_
  refine aw_sld hG dL_law_678 (nI_add i0 1) (by omega) (by omega) ?_
  refine aw_aload_n dL_law_679 rfl ?_
  refine aw_iload_n dL_law_680 rfl ?_
  refine aw_iconst (v := 2) dL_law_681 (by decide) ?_
  refine aw_iadd dL_law_682 ?_
  refine aw_sld hG dL_law_683 (nI_add i0 2) (by omega) (by omega) ?_
  refine aw_aload_n dL_law_684 rfl ?_
  refine aw_iload_n dL_law_685 rfl ?_
  refine aw_iconst (v := 3) dL_law_686 (by decide) ?_
  refine aw_iadd dL_law_687 ?_
  refine aw_sld hG dL_law_688 (nI_add i0 3) (by omega) (by omega) ?_
  refine aw_callV3e (d := 10) dL_law_689 cmX11_shelves cvL_86 (hg_c0 hX.1) (Nat.le_of_ble_eq_true rfl) (tX11_shelves (d := 4) hX eT0 hM6) (fun r n1 hh1 hq => ?_)
  obtain ⟨rfl, rfl, hX1, ho1⟩ := hq
  have hMo1 := mo_off hMo ho1 (Or.inr (Nat.le_refl _))
  refine aw_aload_n dL_law_692 rfl ?_
  refine aw_aload_n dL_law_693 rfl ?_
  refine aw_iload_n dL_law_694 rfl ?_
  refine aw_iconst (v := 1) dL_law_695 (by decide) ?_
  refine aw_iadd dL_law_696 ?_
  refine aw_sld hG dL_law_697 (nI_add i0 1) (by omega) (by omega) ?_
  refine aw_aload_n dL_law_698 rfl ?_
  refine aw_iload_n dL_law_699 rfl ?_
  refine aw_iconst (v := 2) dL_law_700 (by decide) ?_
  refine aw_iadd dL_law_701 ?_
  refine aw_sld hG dL_law_702 (nI_add i0 2) (by omega) (by omega) ?_
  refine aw_aload_n dL_law_703 rfl ?_
  refine aw_iload_n dL_law_704 rfl ?_
  refine aw_iconst (v := 3) dL_law_705 (by decide) ?_
  refine aw_iadd dL_law_706 ?_
  refine aw_sld hG dL_law_707 (nI_add i0 3) (by omega) (by omega) ?_
  refine aw_callV3e (d := 10) dL_law_708 cmX12_shelves cvL_89 (mo_c0 hMo1) (Nat.le_of_ble_eq_true rfl) (tX12_shelves (d := 7) hMo1 eS0 hM6 (F := 720) (shel_E h1 _ _)) (fun r n2 hh2 hq => ?_)
  obtain ⟨rfl, rfl, hMo2, ho2⟩ := hq
  have hti := tie_shelves hr (xs (i0 + 1)) (xs (i0 + 2)) (xs (i0 + 3))
  refine aw_icmp_eq (tgt := 1067) dL_law_711 (by decide) (fun _ => ?_) (fun c => absurd hti.1 c)
  exact K _ _ _ _ _ (lw_fin hX1 ho1 hMo2 ho2 hti hi hok hn) hb1 hb2
set_option maxHeartbeats 1000000 in
set_option maxRecDepth 100000 in
theorem lc_18 (hG : E.2.2.2 = gV E.2.2.1 adK adV fm sb sL xs) (hfm : fm.category = 1) (hL : i0 + 5 ≤ sL) (hL2 : sL ≤ 2560) (K : lK l E Z sb b i0) {n kc bc bs : Nat} {h : ah} (hw : lwW b n h kc) (hb1 : 20 * kc ≤ bc) (hb2 : 191 * kc ≤ bs) : aw l E mL_law Z 11 bc bs 716 (lls sb b i0) [] n h := by
  obtain ⟨g, ⟨C, L, T, A, R, V⟩, S, Lm, Im, hX, hMo, ⟨M, N, u, t, hr⟩, hi, hok, hn⟩ := hw
  have h1 : tRel T S M N u := hr.1
  have hM6 : M ≤ 6 := h1.1.1
  have hN6 : N ≤ 6 := h1.1.2.1
  have hu8 : u ≤ 8 := h1.1.2.2
  have eT0 : T 10 0 = nI M := h1.2.1.1
  have eS0 : S 30 0 = nI M := h1.2.1.2.1
  have eT3 : T 10 3 = nI N := h1.2.1.2.2.2.2.1
  have eS3 : S 30 3 = nI N := h1.2.1.2.2.2.2.2.1
  have eu : S 30 9 = nI u := h1.2.1.2.2.2.2.2.2.2
  have ht : t ≤ 150 := hr.2.1.1
  have eR : R 10 0 = nI t := hr.2.1.2.1
  have eS4 : S 30 4 = nI t := hr.2.1.2.2.1
  refine aw_aload_n dL_law_716 rfl ?_
  refine aw_aload_n dL_law_717 rfl ?_
  refine aw_iload_n dL_law_718 rfl ?_
  refine aw_iconst (v := 1) dL_law_719 (by decide) ?_
  refine aw_iadd dL_law_720 ?_
  refine aw_sld hG dL_law_721 (nI_add i0 1) (by omega) (by omega) ?_
  refine aw_aload_n dL_law_722 rfl ?_
  refine aw_iload_n dL_law_723 rfl ?_
  refine aw_iconst (v := 2) dL_law_724 (by decide) ?_
  refine aw_iadd dL_law_725 ?_
  refine aw_sld hG dL_law_726 (nI_add i0 2) (by omega) (by omega) ?_
  refine aw_aload_n dL_law_727 rfl ?_
  refine aw_iload_n dL_law_728 rfl ?_
  refine aw_iconst (v := 3) dL_law_729 (by decide) ?_
  refine aw_iadd dL_law_730 ?_
  refine aw_sld hG dL_law_731 (nI_add i0 3) (by omega) (by omega) ?_
  refine aw_aload_n dL_law_732 rfl ?_
  refine aw_iload_n dL_law_733 rfl ?_
  refine aw_iconst (v := 4) dL_law_734 (by decide) ?_
  refine aw_iadd dL_law_735 ?_
  refine aw_sld hG dL_law_736 (nI_add i0 4) (by omega) (by omega) ?_
  refine aw_callV4e (d := 10) dL_law_737 cmX11_note cvL_90 (hg_c0 hX.1) (Nat.le_of_ble_eq_true rfl) (tX11_note (d := 9) hX (by rw [eT3]; exact nI_pos (by omega))) (fun r n1 hh1 hq => ?_)
  obtain ⟨rfl, rfl, hX1, ho1⟩ := hq
  have hMo1 := mo_off hMo ho1 (Or.inr (Nat.le_refl _))
  refine aw_aload_n dL_law_740 rfl ?_
  refine aw_aload_n dL_law_741 rfl ?_
  refine aw_iload_n dL_law_742 rfl ?_
  refine aw_iconst (v := 1) dL_law_743 (by decide) ?_
  refine aw_iadd dL_law_744 ?_
  refine aw_sld hG dL_law_745 (nI_add i0 1) (by omega) (by omega) ?_
  refine aw_aload_n dL_law_746 rfl ?_
  refine aw_iload_n dL_law_747 rfl ?_
  refine aw_iconst (v := 2) dL_law_748 (by decide) ?_
  refine aw_iadd dL_law_749 ?_
  refine aw_sld hG dL_law_750 (nI_add i0 2) (by omega) (by omega) ?_
  refine aw_aload_n dL_law_751 rfl ?_
  refine aw_iload_n dL_law_752 rfl ?_
  refine aw_iconst (v := 3) dL_law_753 (by decide) ?_
  refine aw_iadd dL_law_754 ?_
  refine aw_sld hG dL_law_755 (nI_add i0 3) (by omega) (by omega) ?_
  refine aw_aload_n dL_law_756 rfl ?_
  refine aw_iload_n dL_law_757 rfl ?_
  refine aw_iconst (v := 4) dL_law_758 (by decide) ?_
  refine aw_iadd dL_law_759 ?_
  refine aw_sld hG dL_law_760 (nI_add i0 4) (by omega) (by omega) ?_
  refine aw_callV4e (d := 10) dL_law_761 cmX12_note cvL_93 (mo_c0 hMo1) (Nat.le_of_ble_eq_true rfl) (tX12_note (d := 8) hMo1 eS0 hM6 eS3 hN6) (fun r n2 hh2 hq => ?_)
  obtain ⟨rfl, rfl, hMo2, ho2⟩ := hq
  have hti := tie_note hr (xs (i0 + 1)) (xs (i0 + 2)) (xs (i0 + 3)) (xs (i0 + 4))
  refine aw_icmp_eq (tgt := 1067) dL_law_764 (by decide) (fun _ => ?_) (fun c => absurd hti.1 c)
  exact K _ _ _ _ _ (lw_fin hX1 ho1 hMo2 ho2 hti hi hok hn) hb1 hb2
set_option maxHeartbeats 1000000 in
set_option maxRecDepth 100000 in
theorem lc_19 (hG : E.2.2.2 = gV E.2.2.1 adK adV fm sb sL xs) (hfm : fm.category = 1) (hL : i0 + 5 ≤ sL) (hL2 : sL ≤ 2560) (K : lK l E Z sb b i0) {n kc bc bs : Nat} {h : ah} (hw : lwW b n h kc) (hb1 : 20 * kc ≤ bc) (hb2 : 191 * kc ≤ bs) : aw l E mL_law Z 11 bc bs 769 (lls sb b i0) [] n h := by
  obtain ⟨g, ⟨C, L, T, A, R, V⟩, S, Lm, Im, hX, hMo, ⟨M, N, u, t, hr⟩, hi, hok, hn⟩ := hw
  have h1 : tRel T S M N u := hr.1
  have hM6 : M ≤ 6 := h1.1.1
  have hN6 : N ≤ 6 := h1.1.2.1
  have hu8 : u ≤ 8 := h1.1.2.2
  have eT0 : T 10 0 = nI M := h1.2.1.1
  have eS0 : S 30 0 = nI M := h1.2.1.2.1
  have eT3 : T 10 3 = nI N := h1.2.1.2.2.2.2.1
  have eS3 : S 30 3 = nI N := h1.2.1.2.2.2.2.2.1
  have eu : S 30 9 = nI u := h1.2.1.2.2.2.2.2.2.2
  have ht : t ≤ 150 := hr.2.1.1
  have eR : R 10 0 = nI t := hr.2.1.2.1
  have eS4 : S 30 4 = nI t := hr.2.1.2.2.1
  refine aw_aload_n dL_law_769 rfl ?_
  refine aw_callV0e (d := 10) dL_law_770 cmX11_forget cvL_94 (hg_c0 hX.1) (Nat.le_of_ble_eq_true rfl) (tX11_forget (d := 9) hX) (fun r n1 hh1 hq => ?_)
  obtain ⟨rfl, rfl, hX1, ho1⟩ := hq
  have hMo1 := mo_off hMo ho1 (Or.inr (Nat.le_refl _))
  refine aw_aload_n dL_law_773 rfl ?_
  refine aw_callV0e (d := 10) dL_law_774 cmX12_forget cvL_97 (mo_c0 hMo1) (Nat.le_of_ble_eq_true rfl) (tX12_forget (d := 10) hMo1) (fun r n2 hh2 hq => ?_)
  obtain ⟨rfl, rfl, hMo2, ho2⟩ := hq
  have hti := tie_forget hr
  refine aw_icmp_eq (tgt := 1067) dL_law_777 (by decide) (fun _ => ?_) (fun c => absurd hti.1 c)
  exact K _ _ _ _ _ (lw_fin hX1 ho1 hMo2 ho2 hti hi hok hn) hb1 hb2
set_option maxHeartbeats 1000000 in
set_option maxRecDepth 100000 in
theorem lc_20 (hG : E.2.2.2 = gV E.2.2.1 adK adV fm sb sL xs) (hfm : fm.category = 1) (hL : i0 + 5 ≤ sL) (hL2 : sL ≤ 2560) (K : lK l E Z sb b i0) {n kc bc bs : Nat} {h : ah} (hw : lwW b n h kc) (hb1 : 20 * kc ≤ bc) (hb2 : 191 * kc ≤ bs) : aw l E mL_law Z 11 bc bs 782 (lls sb b i0) [] n h := by
  obtain ⟨g, ⟨C, L, T, A, R, V⟩, S, Lm, Im, hX, hMo, ⟨M, N, u, t, hr⟩, hi, hok, hn⟩ := hw
  have h1 : tRel T S M N u := hr.1
  have hM6 : M ≤ 6 := h1.1.1
  have hN6 : N ≤ 6 := h1.1.2.1
  have hu8 : u ≤ 8 := h1.1.2.2
  have eT0 : T 10 0 = nI M := h1.2.1.1
  have eS0 : S 30 0 = nI M := h1.2.1.2.1
  have eT3 : T 10 3 = nI N := h1.2.1.2.2.2.2.1
  have eS3 : S 30 3 = nI N := h1.2.1.2.2.2.2.2.1
  have eu : S 30 9 = nI u := h1.2.1.2.2.2.2.2.2.2
  have ht : t ≤ 150 := hr.2.1.1
  have eR : R 10 0 = nI t := hr.2.1.2.1
  have eS4 : S 30 4 = nI t := hr.2.1.2.2.1
  refine aw_aload_n dL_law_782 rfl ?_
  refine aw_aload_n dL_law_783 rfl ?_
  refine aw_iload_n dL_law_784 rfl ?_
  refine aw_iconst (v := 1) dL_law_785 (by decide) ?_
  refine aw_iadd dL_law_786 ?_
  refine aw_sld hG dL_law_787 (nI_add i0 1) (by omega) (by omega) ?_
  refine aw_aload_n dL_law_788 rfl ?_
  refine aw_iload_n dL_law_789 rfl ?_
  refine aw_iconst (v := 2) dL_law_790 (by decide) ?_
  refine aw_iadd dL_law_791 ?_
  refine aw_sld hG dL_law_792 (nI_add i0 2) (by omega) (by omega) ?_
  refine aw_callV2e (d := 10) dL_law_793 cmX11_is cvL_98 (hg_c0 hX.1) (Nat.le_of_ble_eq_true rfl) (tX11_is (d := 4) hX) (fun r n1 hh1 hq => ?_)
  obtain ⟨rfl, rfl, hX1, ho1⟩ := hq
  have hMo1 := mo_off hMo ho1 (Or.inr (Nat.le_refl _))
  refine aw_aload_n dL_law_796 rfl ?_
  refine aw_aload_n dL_law_797 rfl ?_
  refine aw_iload_n dL_law_798 rfl ?_
  refine aw_iconst (v := 1) dL_law_799 (by decide) ?_
  refine aw_iadd dL_law_800 ?_
  refine aw_sld hG dL_law_801 (nI_add i0 1) (by omega) (by omega) ?_
  refine aw_aload_n dL_law_802 rfl ?_
  refine aw_iload_n dL_law_803 rfl ?_
  refine aw_iconst (v := 2) dL_law_804 (by decide) ?_
  refine aw_iadd dL_law_805 ?_
  refine aw_sld hG dL_law_806 (nI_add i0 2) (by omega) (by omega) ?_
  refine aw_callV2e (d := 10) dL_law_807 cmX12_is cvL_101 (mo_c0 hMo1) (Nat.le_of_ble_eq_true rfl) (tX12_is (d := 6) hMo1 eS0 hM6 eS3 hN6) (fun r n2 hh2 hq => ?_)
  obtain ⟨rfl, rfl, hMo2, ho2⟩ := hq
  have hti := tie_is hr (xs (i0 + 1)) (xs (i0 + 2))
  refine aw_icmp_eq (tgt := 1067) dL_law_810 (by decide) (fun _ => ?_) (fun c => absurd hti.1 c)
  exact K _ _ _ _ _ (lw_fin hX1 ho1 hMo2 ho2 hti hi hok hn) hb1 hb2
set_option maxHeartbeats 1000000 in
set_option maxRecDepth 100000 in
theorem lc_21 (hG : E.2.2.2 = gV E.2.2.1 adK adV fm sb sL xs) (hfm : fm.category = 1) (hL : i0 + 5 ≤ sL) (hL2 : sL ≤ 2560) (K : lK l E Z sb b i0) {n kc bc bs : Nat} {h : ah} (hw : lwW b n h kc) (hb1 : 20 * kc ≤ bc) (hb2 : 191 * kc ≤ bs) : aw l E mL_law Z 11 bc bs 815 (lls sb b i0) [] n h := by
  obtain ⟨g, ⟨C, L, T, A, R, V⟩, S, Lm, Im, hX, hMo, ⟨M, N, u, t, hr⟩, hi, hok, hn⟩ := hw
  have h1 : tRel T S M N u := hr.1
  have hM6 : M ≤ 6 := h1.1.1
  have hN6 : N ≤ 6 := h1.1.2.1
  have hu8 : u ≤ 8 := h1.1.2.2
  have eT0 : T 10 0 = nI M := h1.2.1.1
  have eS0 : S 30 0 = nI M := h1.2.1.2.1
  have eT3 : T 10 3 = nI N := h1.2.1.2.2.2.2.1
  have eS3 : S 30 3 = nI N := h1.2.1.2.2.2.2.2.1
  have eu : S 30 9 = nI u := h1.2.1.2.2.2.2.2.2.2
  have ht : t ≤ 150 := hr.2.1.1
  have eR : R 10 0 = nI t := hr.2.1.2.1
  have eS4 : S 30 4 = nI t := hr.2.1.2.2.1
  refine aw_aload_n dL_law_815 rfl ?_
  refine aw_aload_n dL_law_816 rfl ?_
  refine aw_iload_n dL_law_817 rfl ?_
  refine aw_iconst (v := 1) dL_law_818 (by decide) ?_
  refine aw_iadd dL_law_819 ?_
  refine aw_sld hG dL_law_820 (nI_add i0 1) (by omega) (by omega) ?_
  refine aw_callV1e (d := 10) dL_law_821 cmX11_next cvL_102 (hg_c0 hX.1) (Nat.le_of_ble_eq_true rfl) (tX11_next (d := 4) hX) (fun r n1 hh1 hq => ?_)
  obtain ⟨rfl, rfl, hX1, ho1⟩ := hq
  have hMo1 := mo_off hMo ho1 (Or.inr (Nat.le_refl _))
  refine aw_aload_n dL_law_824 rfl ?_
  refine aw_aload_n dL_law_825 rfl ?_
  refine aw_iload_n dL_law_826 rfl ?_
  refine aw_iconst (v := 1) dL_law_827 (by decide) ?_
  refine aw_iadd dL_law_828 ?_
  refine aw_sld hG dL_law_829 (nI_add i0 1) (by omega) (by omega) ?_
  refine aw_callV1e (d := 10) dL_law_830 cmX12_next cvL_105 (mo_c0 hMo1) (Nat.le_of_ble_eq_true rfl) (tX12_next (d := 6) hMo1 eS0 hM6 eS3 hN6) (fun r n2 hh2 hq => ?_)
  obtain ⟨rfl, rfl, hMo2, ho2⟩ := hq
  have hti := tie_next hr (xs (i0 + 1))
  refine aw_icmp_eq (tgt := 1067) dL_law_833 (by decide) (fun _ => ?_) (fun c => absurd hti.1 c)
  exact K _ _ _ _ _ (lw_fin hX1 ho1 hMo2 ho2 hti hi hok hn) hb1 hb2
set_option maxHeartbeats 1000000 in
set_option maxRecDepth 100000 in
theorem lc_22 (hG : E.2.2.2 = gV E.2.2.1 adK adV fm sb sL xs) (hfm : fm.category = 1) (hL : i0 + 5 ≤ sL) (hL2 : sL ≤ 2560) (K : lK l E Z sb b i0) {n kc bc bs : Nat} {h : ah} (hw : lwW b n h kc) (hb1 : 20 * kc ≤ bc) (hb2 : 191 * kc ≤ bs) : aw l E mL_law Z 11 bc bs 838 (lls sb b i0) [] n h := by
  obtain ⟨g, ⟨C, L, T, A, R, V⟩, S, Lm, Im, hX, hMo, ⟨M, N, u, t, hr⟩, hi, hok, hn⟩ := hw
  have h1 : tRel T S M N u := hr.1
  have hM6 : M ≤ 6 := h1.1.1
  have hN6 : N ≤ 6 := h1.1.2.1
  have hu8 : u ≤ 8 := h1.1.2.2
  have eT0 : T 10 0 = nI M := h1.2.1.1
  have eS0 : S 30 0 = nI M := h1.2.1.2.1
  have eT3 : T 10 3 = nI N := h1.2.1.2.2.2.2.1
  have eS3 : S 30 3 = nI N := h1.2.1.2.2.2.2.2.1
  have eu : S 30 9 = nI u := h1.2.1.2.2.2.2.2.2.2
  have ht : t ≤ 150 := hr.2.1.1
  have eR : R 10 0 = nI t := hr.2.1.2.1
  have eS4 : S 30 4 = nI t := hr.2.1.2.2.1
  refine aw_aload_n dL_law_838 rfl ?_
  refine aw_aload_n dL_law_839 rfl ?_
  refine aw_iload_n dL_law_840 rfl ?_
  refine aw_iconst (v := 1) dL_law_841 (by decide) ?_
  refine aw_iadd dL_law_842 ?_
  refine aw_sld hG dL_law_843 (nI_add i0 1) (by omega) (by omega) ?_
  refine aw_aload_n dL_law_844 rfl ?_
  refine aw_iload_n dL_law_845 rfl ?_
  refine aw_iconst (v := 2) dL_law_846 (by decide) ?_
  refine aw_iadd dL_law_847 ?_
  refine aw_sld hG dL_law_848 (nI_add i0 2) (by omega) (by omega) ?_
  refine aw_callV2e (d := 10) dL_law_849 cmX11_two cvL_106 (hg_c0 hX.1) (Nat.le_of_ble_eq_true rfl) (tX11_two (d := 4) hX) (fun r n1 hh1 hq => ?_)
  obtain ⟨rfl, rfl, hX1, ho1⟩ := hq
  have hMo1 := mo_off hMo ho1 (Or.inr (Nat.le_refl _))
  refine aw_aload_n dL_law_852 rfl ?_
  refine aw_aload_n dL_law_853 rfl ?_
  refine aw_iload_n dL_law_854 rfl ?_
  refine aw_iconst (v := 1) dL_law_855 (by decide) ?_
  refine aw_iadd dL_law_856 ?_
  refine aw_sld hG dL_law_857 (nI_add i0 1) (by omega) (by omega) ?_
  refine aw_aload_n dL_law_858 rfl ?_
  refine aw_iload_n dL_law_859 rfl ?_
  refine aw_iconst (v := 2) dL_law_860 (by decide) ?_
  refine aw_iadd dL_law_861 ?_
  refine aw_sld hG dL_law_862 (nI_add i0 2) (by omega) (by omega) ?_
  refine aw_callV2e (d := 10) dL_law_863 cmX12_two cvL_109 (mo_c0 hMo1) (Nat.le_of_ble_eq_true rfl) (tX12_two (d := 5) hMo1 eS0 hM6) (fun r n2 hh2 hq => ?_)
  obtain ⟨rfl, rfl, hMo2, ho2⟩ := hq
  have hti := tie_two hr (xs (i0 + 1)) (xs (i0 + 2))
  refine aw_icmp_eq (tgt := 1067) dL_law_866 (by decide) (fun _ => ?_) (fun c => absurd hti.1 c)
  exact K _ _ _ _ _ (lw_fin hX1 ho1 hMo2 ho2 hti hi hok hn) hb1 hb2
set_option maxHeartbeats 1000000 in
set_option maxRecDepth 100000 in
theorem lc_23 (hG : E.2.2.2 = gV E.2.2.1 adK adV fm sb sL xs) (hfm : fm.category = 1) (hL : i0 + 5 ≤ sL) (hL2 : sL ≤ 2560) (K : lK l E Z sb b i0) {n kc bc bs : Nat} {h : ah} (hw : lwW b n h kc) (hb1 : 20 * kc ≤ bc) (hb2 : 191 * kc ≤ bs) : aw l E mL_law Z 11 bc bs 871 (lls sb b i0) [] n h := by
  obtain ⟨g, ⟨C, L, T, A, R, V⟩, S, Lm, Im, hX, hMo, ⟨M, N, u, t, hr⟩, hi, hok, hn⟩ := hw
  have h1 : tRel T S M N u := hr.1
  have hM6 : M ≤ 6 := h1.1.1
  have hN6 : N ≤ 6 := h1.1.2.1
  have hu8 : u ≤ 8 := h1.1.2.2
  have eT0 : T 10 0 = nI M := h1.2.1.1
  have eS0 : S 30 0 = nI M := h1.2.1.2.1
  have eT3 : T 10 3 = nI N := h1.2.1.2.2.2.2.1
  have eS3 : S 30 3 = nI N := h1.2.1.2.2.2.2.2.1
  have eu : S 30 9 = nI u := h1.2.1.2.2.2.2.2.2.2
  have ht : t ≤ 150 := hr.2.1.1
  have eR : R 10 0 = nI t := hr.2.1.2.1
  have eS4 : S 30 4 = nI t := hr.2.1.2.2.1
  refine aw_aload_n dL_law_871 rfl ?_
  refine aw_aload_n dL_law_872 rfl ?_
  refine aw_iload_n dL_law_873 rfl ?_
  refine aw_iconst (v := 1) dL_law_874 (by decide) ?_
  refine aw_iadd dL_law_875 ?_
  refine aw_sld hG dL_law_876 (nI_add i0 1) (by omega) (by omega) ?_
  refine aw_aload_n dL_law_877 rfl ?_
  refine aw_iload_n dL_law_878 rfl ?_
  refine aw_iconst (v := 2) dL_law_879 (by decide) ?_
  refine aw_iadd dL_law_880 ?_
  refine aw_sld hG dL_law_881 (nI_add i0 2) (by omega) (by omega) ?_
  refine aw_callV2e (d := 10) dL_law_882 cmX11_winds cvL_110 (hg_c0 hX.1) (Nat.le_of_ble_eq_true rfl) (tX11_winds (d := 5) hX) (fun r n1 hh1 hq => ?_)
  obtain ⟨rfl, rfl, hX1, ho1⟩ := hq
  have hMo1 := mo_off hMo ho1 (Or.inr (Nat.le_refl _))
  refine aw_aload_n dL_law_885 rfl ?_
  refine aw_aload_n dL_law_886 rfl ?_
  refine aw_iload_n dL_law_887 rfl ?_
  refine aw_iconst (v := 1) dL_law_888 (by decide) ?_
  refine aw_iadd dL_law_889 ?_
  refine aw_sld hG dL_law_890 (nI_add i0 1) (by omega) (by omega) ?_
  refine aw_aload_n dL_law_891 rfl ?_
  refine aw_iload_n dL_law_892 rfl ?_
  refine aw_iconst (v := 2) dL_law_893 (by decide) ?_
  refine aw_iadd dL_law_894 ?_
  refine aw_sld hG dL_law_895 (nI_add i0 2) (by omega) (by omega) ?_
  refine aw_callV2e (d := 10) dL_law_896 cmX12_winds cvL_113 (mo_c0 hMo1) (Nat.le_of_ble_eq_true rfl) (tX12_winds (d := 6) hMo1 eS0 hM6 (fun q => (wi_fr h1 _ q).2.1) (fun q => (wi_fr h1 _ q).2.2.1)) (fun r n2 hh2 hq => ?_)
  obtain ⟨rfl, rfl, hMo2, ho2⟩ := hq
  have hti := tie_winds hr (xs (i0 + 1)) (xs (i0 + 2))
  refine aw_icmp_eq (tgt := 1067) dL_law_899 (by decide) (fun _ => ?_) (fun c => absurd hti.1 c)
  exact K _ _ _ _ _ (lw_fin hX1 ho1 hMo2 ho2 hti hi hok hn) hb1 hb2
set_option maxHeartbeats 1000000 in
set_option maxRecDepth 100000 in
theorem lc_24 (hG : E.2.2.2 = gV E.2.2.1 adK adV fm sb sL xs) (hfm : fm.category = 1) (hL : i0 + 5 ≤ sL) (hL2 : sL ≤ 2560) (K : lK l E Z sb b i0) {n kc bc bs : Nat} {h : ah} (hw : lwW b n h kc) (hb1 : 20 * kc ≤ bc) (hb2 : 191 * kc ≤ bs) : aw l E mL_law Z 11 bc bs 904 (lls sb b i0) [] n h := by
  obtain ⟨g, ⟨C, L, T, A, R, V⟩, S, Lm, Im, hX, hMo, ⟨M, N, u, t, hr⟩, hi, hok, hn⟩ := hw
  have h1 : tRel T S M N u := hr.1
  have hM6 : M ≤ 6 := h1.1.1
  have hN6 : N ≤ 6 := h1.1.2.1
  have hu8 : u ≤ 8 := h1.1.2.2
  have eT0 : T 10 0 = nI M := h1.2.1.1
  have eS0 : S 30 0 = nI M := h1.2.1.2.1
  have eT3 : T 10 3 = nI N := h1.2.1.2.2.2.2.1
  have eS3 : S 30 3 = nI N := h1.2.1.2.2.2.2.2.1
  have eu : S 30 9 = nI u := h1.2.1.2.2.2.2.2.2.2
  have ht : t ≤ 150 := hr.2.1.1
  have eR : R 10 0 = nI t := hr.2.1.2.1
  have eS4 : S 30 4 = nI t := hr.2.1.2.2.1
  refine aw_aload_n dL_law_904 rfl ?_
  refine aw_aload_n dL_law_905 rfl ?_
  refine aw_iload_n dL_law_906 rfl ?_
  refine aw_iconst (v := 1) dL_law_907 (by decide) ?_
  refine aw_iadd dL_law_908 ?_
  refine aw_sld hG dL_law_909 (nI_add i0 1) (by omega) (by omega) ?_
  refine aw_aload_n dL_law_910 rfl ?_
  refine aw_iload_n dL_law_911 rfl ?_
  refine aw_iconst (v := 2) dL_law_912 (by decide) ?_
  refine aw_iadd dL_law_913 ?_
  refine aw_sld hG dL_law_914 (nI_add i0 2) (by omega) (by omega) ?_
  refine aw_callV2e (d := 10) dL_law_915 cmX11_years cvL_114 (hg_c0 hX.1) (Nat.le_of_ble_eq_true rfl) (tX11_years (d := 4) hX) (fun r n1 hh1 hq => ?_)
  obtain ⟨rfl, rfl, hX1, ho1⟩ := hq
  have hMo1 := mo_off hMo ho1 (Or.inr (Nat.le_refl _))
  refine aw_aload_n dL_law_918 rfl ?_
  refine aw_aload_n dL_law_919 rfl ?_
  refine aw_iload_n dL_law_920 rfl ?_
  refine aw_iconst (v := 1) dL_law_921 (by decide) ?_
  refine aw_iadd dL_law_922 ?_
  refine aw_sld hG dL_law_923 (nI_add i0 1) (by omega) (by omega) ?_
  refine aw_aload_n dL_law_924 rfl ?_
  refine aw_iload_n dL_law_925 rfl ?_
  refine aw_iconst (v := 2) dL_law_926 (by decide) ?_
  refine aw_iadd dL_law_927 ?_
  refine aw_sld hG dL_law_928 (nI_add i0 2) (by omega) (by omega) ?_
  refine aw_callV2e (d := 10) dL_law_929 cmX12_years cvL_117 (mo_c0 hMo1) (Nat.le_of_ble_eq_true rfl) (tX12_years (d := 5) hMo1 eS0 hM6) (fun r n2 hh2 hq => ?_)
  obtain ⟨rfl, rfl, hMo2, ho2⟩ := hq
  have hti := tie_years hr (xs (i0 + 1)) (xs (i0 + 2))
  refine aw_icmp_eq (tgt := 1067) dL_law_932 (by decide) (fun _ => ?_) (fun c => absurd hti.1 c)
  exact K _ _ _ _ _ (lw_fin hX1 ho1 hMo2 ho2 hti hi hok hn) hb1 hb2
set_option maxHeartbeats 1000000 in
set_option maxRecDepth 100000 in
theorem lc_25 (hG : E.2.2.2 = gV E.2.2.1 adK adV fm sb sL xs) (hfm : fm.category = 1) (hL : i0 + 5 ≤ sL) (hL2 : sL ≤ 2560) (K : lK l E Z sb b i0) {n kc bc bs : Nat} {h : ah} (hw : lwW b n h kc) (hb1 : 20 * kc ≤ bc) (hb2 : 191 * kc ≤ bs) : aw l E mL_law Z 11 bc bs 937 (lls sb b i0) [] n h := by
  obtain ⟨g, ⟨C, L, T, A, R, V⟩, S, Lm, Im, hX, hMo, ⟨M, N, u, t, hr⟩, hi, hok, hn⟩ := hw
  have h1 : tRel T S M N u := hr.1
  have hM6 : M ≤ 6 := h1.1.1
  have hN6 : N ≤ 6 := h1.1.2.1
  have hu8 : u ≤ 8 := h1.1.2.2
  have eT0 : T 10 0 = nI M := h1.2.1.1
  have eS0 : S 30 0 = nI M := h1.2.1.2.1
  have eT3 : T 10 3 = nI N := h1.2.1.2.2.2.2.1
  have eS3 : S 30 3 = nI N := h1.2.1.2.2.2.2.2.1
  have eu : S 30 9 = nI u := h1.2.1.2.2.2.2.2.2.2
  have ht : t ≤ 150 := hr.2.1.1
  have eR : R 10 0 = nI t := hr.2.1.2.1
  have eS4 : S 30 4 = nI t := hr.2.1.2.2.1
  refine aw_aload_n dL_law_937 rfl ?_
  refine aw_aload_n dL_law_938 rfl ?_
  refine aw_iload_n dL_law_939 rfl ?_
  refine aw_iconst (v := 1) dL_law_940 (by decide) ?_
  refine aw_iadd dL_law_941 ?_
  refine aw_sld hG dL_law_942 (nI_add i0 1) (by omega) (by omega) ?_
  refine aw_callV1e (d := 10) dL_law_943 cmX11_part cvL_118 (hg_c0 hX.1) (Nat.le_of_ble_eq_true rfl) (tX11_part (d := 9) hX) (fun r n1 hh1 hq => ?_)
  obtain ⟨rfl, rfl, hX1, ho1⟩ := hq
  have hMo1 := mo_off hMo ho1 (Or.inr (Nat.le_refl _))
  refine aw_aload_n dL_law_946 rfl ?_
  refine aw_aload_n dL_law_947 rfl ?_
  refine aw_iload_n dL_law_948 rfl ?_
  refine aw_iconst (v := 1) dL_law_949 (by decide) ?_
  refine aw_iadd dL_law_950 ?_
  refine aw_sld hG dL_law_951 (nI_add i0 1) (by omega) (by omega) ?_
  refine aw_callV1e (d := 10) dL_law_952 cmX12_part cvL_122 (mo_c0 hMo1) (Nat.le_of_ble_eq_true rfl) (tX12_part (d := 9) hMo1) (fun r n2 hh2 hq => ?_)
  obtain ⟨rfl, rfl, hMo2, ho2⟩ := hq
  have hti := tie_part hr (xs (i0 + 1))
  refine aw_lcmp dL_law_955 ?_
  refine aw_if_eq (tgt := 1067) dL_law_956 (by decide) (fun _ => ?_) (fun c => absurd ((lg_cmp_eq _ _).mpr hti.1) c)
  exact K _ _ _ _ _ (lw_finL hX1 ho1 hMo2 ho2 hti hi hok hn) hb1 hb2
set_option maxHeartbeats 1000000 in
set_option maxRecDepth 100000 in
theorem lc_26 (hG : E.2.2.2 = gV E.2.2.1 adK adV fm sb sL xs) (hfm : fm.category = 1) (hL : i0 + 5 ≤ sL) (hL2 : sL ≤ 2560) (K : lK l E Z sb b i0) {n kc bc bs : Nat} {h : ah} (hw : lwW b n h kc) (hb1 : 20 * kc ≤ bc) (hb2 : 191 * kc ≤ bs) : aw l E mL_law Z 11 bc bs 961 (lls sb b i0) [] n h := by
  obtain ⟨g, ⟨C, L, T, A, R, V⟩, S, Lm, Im, hX, hMo, ⟨M, N, u, t, hr⟩, hi, hok, hn⟩ := hw
  have h1 : tRel T S M N u := hr.1
  have hM6 : M ≤ 6 := h1.1.1
  have hN6 : N ≤ 6 := h1.1.2.1
  have hu8 : u ≤ 8 := h1.1.2.2
  have eT0 : T 10 0 = nI M := h1.2.1.1
  have eS0 : S 30 0 = nI M := h1.2.1.2.1
  have eT3 : T 10 3 = nI N := h1.2.1.2.2.2.2.1
  have eS3 : S 30 3 = nI N := h1.2.1.2.2.2.2.2.1
  have eu : S 30 9 = nI u := h1.2.1.2.2.2.2.2.2.2
  have ht : t ≤ 150 := hr.2.1.1
  have eR : R 10 0 = nI t := hr.2.1.2.1
  have eS4 : S 30 4 = nI t := hr.2.1.2.2.1
  refine aw_aload_n dL_law_961 rfl ?_
  refine aw_aload_n dL_law_962 rfl ?_
  refine aw_iload_n dL_law_963 rfl ?_
  refine aw_iconst (v := 1) dL_law_964 (by decide) ?_
  refine aw_iadd dL_law_965 ?_
  refine aw_sld hG dL_law_966 (nI_add i0 1) (by omega) (by omega) ?_
  by_cases c0 : iW (xs (i0 + 1)) 0 1 = 0
  · refine aw_callV1e (d := 10) dL_law_967 cmX11_image cvL_123 (hg_c0 hX.1) (Nat.le_of_ble_eq_true rfl) (tX11_imageB (d := 5) hX c0) (fun r n1 hh1 hq => ?_)
    obtain ⟨rfl, rfl, hX1, ho1⟩ := hq
    have hMo1 := mo_off hMo ho1 (Or.inr (Nat.le_refl _))
    refine aw_aload_n dL_law_970 rfl ?_
    refine aw_aload_n dL_law_971 rfl ?_
    refine aw_iload_n dL_law_972 rfl ?_
    refine aw_iconst (v := 1) dL_law_973 (by decide) ?_
    refine aw_iadd dL_law_974 ?_
    refine aw_sld hG dL_law_975 (nI_add i0 1) (by omega) (by omega) ?_
    refine aw_callV1e (d := 10) dL_law_976 cmX12_image cvL_126 (mo_c0 hMo1) (Nat.le_of_ble_eq_true rfl) (tX12_image (d := 9) hMo1) (fun r n2 hh2 hq => ?_)
    obtain ⟨rfl, rfl, hMo2, ho2⟩ := hq
    have hti : tieO (-2, xB C, L, T, A, R, V) (mImage S Lm (xs (i0 + 1))) S := by
      unfold mImage
      rw [if_pos c0]; exact tie_bad hr
    refine aw_icmp_eq (tgt := 1067) dL_law_979 (by decide) (fun _ => ?_) (fun c => absurd hti.1 c)
    exact K _ _ _ _ _ (lw_fin hX1 ho1 hMo2 ho2 hti hi hok hn) hb1 hb2
  · obtain ⟨a, ha, ea⟩ := iW01 c0
    have em := mImage_a S Lm ha
    rw [← ea] at em
    cases hg : g a with
    | some s =>
      obtain ⟨q1, q2, q3⟩ := hok.1 a s ha hg
      refine aw_callV1e (d := 10) dL_law_967 cmX11_image cvL_123 (hg_c0 hX.1) (Nat.le_of_ble_eq_true rfl) (tX11_imageS (d := 5) hX ha ea hg q1 (by omega)) (fun r n1 hh1 hq => ?_)
      obtain ⟨rfl, rfl, hX1, hI1, ho1⟩ := hq
      have hMo1 := mo_off hMo ho1 (Or.inl (by omega))
      refine aw_aload_n dL_law_970 rfl ?_
      refine aw_aload_n dL_law_971 rfl ?_
      refine aw_iload_n dL_law_972 rfl ?_
      refine aw_iconst (v := 1) dL_law_973 (by decide) ?_
      refine aw_iadd dL_law_974 ?_
      refine aw_sld hG dL_law_975 (nI_add i0 1) (by omega) (by omega) ?_
      refine aw_callV1e (d := 10) dL_law_976 cmX12_image cvL_126 (mo_c0 hMo1) (Nat.le_of_ble_eq_true rfl) (tX12_image (d := 9) hMo1) (fun r n2 hh2 hq => ?_)
      obtain ⟨rfl, rfl, hMo2, ho2⟩ := hq
      rw [em] at hMo2 ⊢
      refine aw_icmp_eq (tgt := 1067) dL_law_979 (by decide) (fun _ => ?_) (fun c => absurd rfl c)
      have hi2 := iRel_img hi h1 (a := a) s (Im a)
      rw [gup_at hg] at hi2
      exact K _ _ _ _ _ ⟨g, (C, L, T, A, R, V), mImg S a, Lm, va_up Im a (trCopyF T (Im a)), x_off hX1 ho2 (Or.inl (Nat.le_refl _)), hMo2, ⟨M, N, u, t, tie_img hr⟩, hi2, im_off (im_over hok ha hg hI1 ho1) ho2 (by omega), hn⟩ hb1 hb2
    | none =>
      have hnn : 1 ≤ nn g := by have := nn_up (s := n) ha hg; omega
      have hbn := hok.2.2
      obtain ⟨kc, rfl⟩ : ∃ k, kc = k + 1 := ⟨kc - 1, by omega⟩
      refine aw_callV1 (d := 10) (bc' := bc - 20) (bs' := bs - 191) dL_law_967 cmX11_image cvL_123 (hg_c0 hX.1) (Nat.le_of_ble_eq_true rfl) (tX11_imageN (d := 5) hX hG ha ea hg (by omega)) (by omega) (by omega) (fun r n1 hh1 hq => ?_)
      obtain ⟨rfl, rfl, hX1, hI1, ho1⟩ := hq
      have hMo1 : is_mo hh1 (b + 49) S Lm := fun j hj => (ho1 (b + 49 + j) (by omega) (by omega)).trans (hMo j hj)
      refine aw_aload_n dL_law_970 rfl ?_
      refine aw_aload_n dL_law_971 rfl ?_
      refine aw_iload_n dL_law_972 rfl ?_
      refine aw_iconst (v := 1) dL_law_973 (by decide) ?_
      refine aw_iadd dL_law_974 ?_
      refine aw_sld hG dL_law_975 (nI_add i0 1) (by omega) (by omega) ?_
      refine aw_callV1e (d := 10) dL_law_976 cmX12_image cvL_126 (mo_c0 hMo1) (Nat.le_of_ble_eq_true rfl) (tX12_image (d := 9) hMo1) (fun r n2 hh2 hq => ?_)
      obtain ⟨rfl, rfl, hMo2, ho2⟩ := hq
      rw [em] at hMo2 ⊢
      refine aw_icmp_eq (tgt := 1067) dL_law_979 (by decide) (fun _ => ?_) (fun c => absurd rfl c)
      exact K _ _ kc _ _ ⟨va_up g a (some n), (C, L, T, A, R, V), mImg S a, Lm, va_up Im a (trCopyF T T00), x_off hX1 ho2 (Or.inl (Nat.le_refl _)), hMo2, ⟨M, N, u, t, tie_img hr⟩, iRel_img hi h1 (a := a) n T00, im_off (im_new hok ha hI1 ho1) ho2 (by omega), by have := nn_up (s := n) ha hg; omega⟩ (by omega) (by omega)
set_option maxHeartbeats 1000000 in
set_option maxRecDepth 100000 in
theorem lc_27 (hG : E.2.2.2 = gV E.2.2.1 adK adV fm sb sL xs) (hfm : fm.category = 1) (hL : i0 + 5 ≤ sL) (hL2 : sL ≤ 2560) (K : lK l E Z sb b i0) {n kc bc bs : Nat} {h : ah} (hw : lwW b n h kc) (hb1 : 20 * kc ≤ bc) (hb2 : 191 * kc ≤ bs) : aw l E mL_law Z 11 bc bs 984 (lls sb b i0) [] n h := by
  obtain ⟨g, ⟨C, L, T, A, R, V⟩, S, Lm, Im, hX, hMo, ⟨M, N, u, t, hr⟩, hi, hok, hn⟩ := hw
  have h1 : tRel T S M N u := hr.1
  have hM6 : M ≤ 6 := h1.1.1
  have hN6 : N ≤ 6 := h1.1.2.1
  have hu8 : u ≤ 8 := h1.1.2.2
  have eT0 : T 10 0 = nI M := h1.2.1.1
  have eS0 : S 30 0 = nI M := h1.2.1.2.1
  have eT3 : T 10 3 = nI N := h1.2.1.2.2.2.2.1
  have eS3 : S 30 3 = nI N := h1.2.1.2.2.2.2.2.1
  have eu : S 30 9 = nI u := h1.2.1.2.2.2.2.2.2.2
  have ht : t ≤ 150 := hr.2.1.1
  have eR : R 10 0 = nI t := hr.2.1.2.1
  have eS4 : S 30 4 = nI t := hr.2.1.2.2.1
  refine aw_aload_n dL_law_984 rfl ?_
  refine aw_aload_n dL_law_985 rfl ?_
  refine aw_iload_n dL_law_986 rfl ?_
  refine aw_iconst (v := 1) dL_law_987 (by decide) ?_
  refine aw_iadd dL_law_988 ?_
  refine aw_sld hG dL_law_989 (nI_add i0 1) (by omega) (by omega) ?_
  by_cases c0 : iW (xs (i0 + 1)) 0 1 = 0
  · refine aw_callV1e (d := 10) dL_law_990 cmX11_from cvL_127 (hg_c0 hX.1) (Nat.le_of_ble_eq_true rfl) (tX11_fromB (d := 8) hX c0) (fun r n1 hh1 hq => ?_)
    obtain ⟨rfl, rfl, hX1, ho1⟩ := hq
    have hMo1 := mo_off hMo ho1 (Or.inr (Nat.le_refl _))
    refine aw_aload_n dL_law_993 rfl ?_
    refine aw_aload_n dL_law_994 rfl ?_
    refine aw_iload_n dL_law_995 rfl ?_
    refine aw_iconst (v := 1) dL_law_996 (by decide) ?_
    refine aw_iadd dL_law_997 ?_
    refine aw_sld hG dL_law_998 (nI_add i0 1) (by omega) (by omega) ?_
    refine aw_callV1e (d := 10) dL_law_999 cmX12_from cvL_130 (mo_c0 hMo1) (Nat.le_of_ble_eq_true rfl) (tX12_from (d := 9) hMo1) (fun r n2 hh2 hq => ?_)
    obtain ⟨rfl, rfl, hMo2, ho2⟩ := hq
    have hti : tieO (-2, xB C, L, T, A, R, V) (mFrom S Lm (xs (i0 + 1))) S := by
      unfold mFrom
      rw [if_pos c0]; exact tie_bad hr
    refine aw_icmp_eq (tgt := 1067) dL_law_1002 (by decide) (fun _ => ?_) (fun c => absurd hti.1 c)
    exact K _ _ _ _ _ (lw_fin hX1 ho1 hMo2 ho2 hti hi hok hn) hb1 hb2
  · obtain ⟨a, ha, ea⟩ := iW01 c0
    have em := mFrom_a S Lm ha
    rw [← ea] at em
    cases hg : g a with
    | some s =>
      obtain ⟨q1, q2, q3⟩ := hok.1 a s ha hg
      obtain ⟨z1, M', N', u', z2⟩ := (hi a ha).2 s hg
      rw [if_neg z1] at em
      refine aw_callV1e (d := 10) dL_law_990 cmX11_from cvL_127 (hg_c0 hX.1) (Nat.le_of_ble_eq_true rfl) (tX11_fromS (d := 8) hX ha ea hg q1 (by omega)) (fun r n1 hh1 hq => ?_)
      obtain ⟨rfl, rfl, hX1, ho1⟩ := hq
      have hMo1 := mo_off hMo ho1 (Or.inr (Nat.le_refl _))
      refine aw_aload_n dL_law_993 rfl ?_
      refine aw_aload_n dL_law_994 rfl ?_
      refine aw_iload_n dL_law_995 rfl ?_
      refine aw_iconst (v := 1) dL_law_996 (by decide) ?_
      refine aw_iadd dL_law_997 ?_
      refine aw_sld hG dL_law_998 (nI_add i0 1) (by omega) (by omega) ?_
      refine aw_callV1e (d := 10) dL_law_999 cmX12_from cvL_130 (mo_c0 hMo1) (Nat.le_of_ble_eq_true rfl) (tX12_from (d := 9) hMo1) (fun r n2 hh2 hq => ?_)
      obtain ⟨rfl, rfl, hMo2, ho2⟩ := hq
      have hti : tieO (1, C, L, trCopyF (Im a) T, A, R, V) (mFrom S Lm (xs (i0 + 1))) S := by rw [em]; exact tie_frm hr z2
      refine aw_icmp_eq (tgt := 1067) dL_law_1002 (by decide) (fun _ => ?_) (fun c => absurd hti.1 c)
      exact K _ _ _ _ _ (lw_fin hX1 ho1 hMo2 ho2 hti hi hok hn) hb1 hb2
    | none =>
      rw [if_pos ((hi a ha).1 hg)] at em
      refine aw_callV1e (d := 10) dL_law_990 cmX11_from cvL_127 (hg_c0 hX.1) (Nat.le_of_ble_eq_true rfl) (tX11_fromN (d := 8) hX ha ea hg) (fun r n1 hh1 hq => ?_)
      obtain ⟨rfl, rfl, hX1, ho1⟩ := hq
      have hMo1 := mo_off hMo ho1 (Or.inr (Nat.le_refl _))
      refine aw_aload_n dL_law_993 rfl ?_
      refine aw_aload_n dL_law_994 rfl ?_
      refine aw_iload_n dL_law_995 rfl ?_
      refine aw_iconst (v := 1) dL_law_996 (by decide) ?_
      refine aw_iadd dL_law_997 ?_
      refine aw_sld hG dL_law_998 (nI_add i0 1) (by omega) (by omega) ?_
      refine aw_callV1e (d := 10) dL_law_999 cmX12_from cvL_130 (mo_c0 hMo1) (Nat.le_of_ble_eq_true rfl) (tX12_from (d := 9) hMo1) (fun r n2 hh2 hq => ?_)
      obtain ⟨rfl, rfl, hMo2, ho2⟩ := hq
      have hti : tieO (-3, xN C, L, T, A, R, V) (mFrom S Lm (xs (i0 + 1))) S := by rw [em]; exact tie_no hr
      refine aw_icmp_eq (tgt := 1067) dL_law_1002 (by decide) (fun _ => ?_) (fun c => absurd hti.1 c)
      exact K _ _ _ _ _ (lw_fin hX1 ho1 hMo2 ho2 hti hi hok hn) hb1 hb2
set_option maxHeartbeats 1000000 in
set_option maxRecDepth 100000 in
theorem lc_28 (hG : E.2.2.2 = gV E.2.2.1 adK adV fm sb sL xs) (hfm : fm.category = 1) (hL : i0 + 5 ≤ sL) (hL2 : sL ≤ 2560) (K : lK l E Z sb b i0) {n kc bc bs : Nat} {h : ah} (hw : lwW b n h kc) (hb1 : 20 * kc ≤ bc) (hb2 : 191 * kc ≤ bs) : aw l E mL_law Z 11 bc bs 1007 (lls sb b i0) [] n h := by
  obtain ⟨g, ⟨C, L, T, A, R, V⟩, S, Lm, Im, hX, hMo, ⟨M, N, u, t, hr⟩, hi, hok, hn⟩ := hw
  have h1 : tRel T S M N u := hr.1
  have hM6 : M ≤ 6 := h1.1.1
  have hN6 : N ≤ 6 := h1.1.2.1
  have hu8 : u ≤ 8 := h1.1.2.2
  have eT0 : T 10 0 = nI M := h1.2.1.1
  have eS0 : S 30 0 = nI M := h1.2.1.2.1
  have eT3 : T 10 3 = nI N := h1.2.1.2.2.2.2.1
  have eS3 : S 30 3 = nI N := h1.2.1.2.2.2.2.2.1
  have eu : S 30 9 = nI u := h1.2.1.2.2.2.2.2.2.2
  have ht : t ≤ 150 := hr.2.1.1
  have eR : R 10 0 = nI t := hr.2.1.2.1
  have eS4 : S 30 4 = nI t := hr.2.1.2.2.1
  refine aw_aload_n dL_law_1007 rfl ?_
  refine aw_aload_n dL_law_1008 rfl ?_
  refine aw_iload_n dL_law_1009 rfl ?_
  refine aw_iconst (v := 1) dL_law_1010 (by decide) ?_
  refine aw_iadd dL_law_1011 ?_
  refine aw_sld hG dL_law_1012 (nI_add i0 1) (by omega) (by omega) ?_
  refine aw_callV1e (d := 10) dL_law_1013 cmX11_status cvL_131 (hg_c0 hX.1) (Nat.le_of_ble_eq_true rfl) (tX11_status (d := 9) hX) (fun r n1 hh1 hq => ?_)
  obtain ⟨rfl, rfl, hX1, ho1⟩ := hq
  have hMo1 := mo_off hMo ho1 (Or.inr (Nat.le_refl _))
  refine aw_aload_n dL_law_1016 rfl ?_
  refine aw_aload_n dL_law_1017 rfl ?_
  refine aw_iload_n dL_law_1018 rfl ?_
  refine aw_iconst (v := 1) dL_law_1019 (by decide) ?_
  refine aw_iadd dL_law_1020 ?_
  refine aw_sld hG dL_law_1021 (nI_add i0 1) (by omega) (by omega) ?_
  refine aw_callV1e (d := 10) dL_law_1022 cmX12_status cvL_134 (mo_c0 hMo1) (Nat.le_of_ble_eq_true rfl) (tX12_status (d := 9) hMo1) (fun r n2 hh2 hq => ?_)
  obtain ⟨rfl, rfl, hMo2, ho2⟩ := hq
  have hti := tie_status hr (xs (i0 + 1))
  refine aw_icmp_eq (tgt := 1067) dL_law_1025 (by decide) (fun _ => ?_) (fun c => absurd hti.1 c)
  exact K _ _ _ _ _ (lw_fin hX1 ho1 hMo2 ho2 hti hi hok hn) hb1 hb2
set_option maxHeartbeats 1000000 in
set_option maxRecDepth 100000 in
theorem lc_29 (hG : E.2.2.2 = gV E.2.2.1 adK adV fm sb sL xs) (hfm : fm.category = 1) (hL : i0 + 5 ≤ sL) (hL2 : sL ≤ 2560) (K : lK l E Z sb b i0) {n kc bc bs : Nat} {h : ah} (hw : lwW b n h kc) (hb1 : 20 * kc ≤ bc) (hb2 : 191 * kc ≤ bs) : aw l E mL_law Z 11 bc bs 1030 (lls sb b i0) [] n h := by
  obtain ⟨g, ⟨C, L, T, A, R, V⟩, S, Lm, Im, hX, hMo, ⟨M, N, u, t, hr⟩, hi, hok, hn⟩ := hw
  have h1 : tRel T S M N u := hr.1
  have hM6 : M ≤ 6 := h1.1.1
  have hN6 : N ≤ 6 := h1.1.2.1
  have hu8 : u ≤ 8 := h1.1.2.2
  have eT0 : T 10 0 = nI M := h1.2.1.1
  have eS0 : S 30 0 = nI M := h1.2.1.2.1
  have eT3 : T 10 3 = nI N := h1.2.1.2.2.2.2.1
  have eS3 : S 30 3 = nI N := h1.2.1.2.2.2.2.2.1
  have eu : S 30 9 = nI u := h1.2.1.2.2.2.2.2.2.2
  have ht : t ≤ 150 := hr.2.1.1
  have eR : R 10 0 = nI t := hr.2.1.2.1
  have eS4 : S 30 4 = nI t := hr.2.1.2.2.1
  refine aw_aload_n dL_law_1030 rfl ?_
  refine aw_aload_n dL_law_1031 rfl ?_
  refine aw_iload_n dL_law_1032 rfl ?_
  refine aw_iconst (v := 1) dL_law_1033 (by decide) ?_
  refine aw_iadd dL_law_1034 ?_
  refine aw_sld hG dL_law_1035 (nI_add i0 1) (by omega) (by omega) ?_
  refine aw_callV1e (d := 10) dL_law_1036 cmX11_count cvL_135 (hg_c0 hX.1) (Nat.le_of_ble_eq_true rfl) (tX11_count (d := 6) hX) (fun r n1 hh1 hq => ?_)
  obtain ⟨rfl, rfl, hX1, ho1⟩ := hq
  have hMo1 := mo_off hMo ho1 (Or.inr (Nat.le_refl _))
  refine aw_aload_n dL_law_1039 rfl ?_
  refine aw_aload_n dL_law_1040 rfl ?_
  refine aw_iload_n dL_law_1041 rfl ?_
  refine aw_iconst (v := 1) dL_law_1042 (by decide) ?_
  refine aw_iadd dL_law_1043 ?_
  refine aw_sld hG dL_law_1044 (nI_add i0 1) (by omega) (by omega) ?_
  refine aw_callV1e (d := 10) dL_law_1045 cmX12_count cvL_138 (mo_c0 hMo1) (Nat.le_of_ble_eq_true rfl) (tX12_count (d := 8) hMo1 eS0 hM6) (fun r n2 hh2 hq => ?_)
  obtain ⟨rfl, rfl, hMo2, ho2⟩ := hq
  have hti := tie_count hr (xs (i0 + 1))
  refine aw_icmp_eq (tgt := 1067) dL_law_1048 (by decide) (fun _ => ?_) (fun c => absurd hti.1 c)
  exact K _ _ _ _ _ (lw_fin hX1 ho1 hMo2 ho2 hti hi hok hn) hb1 hb2
set_option maxHeartbeats 1000000 in
set_option maxRecDepth 100000 in
theorem lc_30 (hG : E.2.2.2 = gV E.2.2.1 adK adV fm sb sL xs) (hfm : fm.category = 1) (hL : i0 + 5 ≤ sL) (hL2 : sL ≤ 2560) (K : lK l E Z sb b i0) {n kc bc bs : Nat} {h : ah} (hw : lwW b n h kc) (hb1 : 20 * kc ≤ bc) (hb2 : 191 * kc ≤ bs) : aw l E mL_law Z 11 bc bs 1053 (lls sb b i0) [] n h := by
  obtain ⟨g, ⟨C, L, T, A, R, V⟩, S, Lm, Im, hX, hMo, ⟨M, N, u, t, hr⟩, hi, hok, hn⟩ := hw
  have h1 : tRel T S M N u := hr.1
  have hM6 : M ≤ 6 := h1.1.1
  have hN6 : N ≤ 6 := h1.1.2.1
  have hu8 : u ≤ 8 := h1.1.2.2
  have eT0 : T 10 0 = nI M := h1.2.1.1
  have eS0 : S 30 0 = nI M := h1.2.1.2.1
  have eT3 : T 10 3 = nI N := h1.2.1.2.2.2.2.1
  have eS3 : S 30 3 = nI N := h1.2.1.2.2.2.2.2.1
  have eu : S 30 9 = nI u := h1.2.1.2.2.2.2.2.2.2
  have ht : t ≤ 150 := hr.2.1.1
  have eR : R 10 0 = nI t := hr.2.1.2.1
  have eS4 : S 30 4 = nI t := hr.2.1.2.2.1
  refine aw_aload_n dL_law_1053 rfl ?_
  refine aw_callV0e (d := 10) dL_law_1054 cmX11_digest cvL_139 (hg_c0 hX.1) (Nat.le_of_ble_eq_true rfl) (tX11_digest (d := 6) hX) (fun r n1 hh1 hq => ?_)
  obtain ⟨rfl, rfl, hX1, ho1⟩ := hq
  have hMo1 := mo_off hMo ho1 (Or.inr (Nat.le_refl _))
  refine aw_aload_n dL_law_1057 rfl ?_
  refine aw_callV0e (d := 10) dL_law_1058 cmX12_digest cvL_143 (mo_c0 hMo1) (Nat.le_of_ble_eq_true rfl) (tX12_digest (d := 8) hMo1 eS0 hM6 eS3 hN6) (fun r n2 hh2 hq => ?_)
  obtain ⟨rfl, rfl, hMo2, ho2⟩ := hq
  have hti := tie_digest hr
  refine aw_lcmp dL_law_1061 ?_
  refine aw_if_eq (tgt := 1067) dL_law_1062 (by decide) (fun _ => ?_) (fun c => absurd ((lg_cmp_eq _ _).mpr hti.1) c)
  exact K _ _ _ _ _ (lw_finL hX1 ho1 hMo2 ho2 hti hi hok hn) hb1 hb2
end LAW
