/-! THE LAW'S LOOP. -/
section LOOP
variable {l : Launch} {E : aw_E} {Z : aw_Zt} {adK adV : Nat → Nat} {fm : Value} {sb sL b : Nat} {xs : Nat → Int32}
set_option maxHeartbeats 4000000 in
set_option maxRecDepth 100000 in
theorem law_body (hG : E.2.2.2 = gV E.2.2.1 adK adV fm sb sL xs) (hfm : fm.category = 1) (hL2 : sL ≤ 2560) {i0 : Nat} (hL : i0 + 5 ≤ sL) (K : lK l E Z sb b i0) {n kc bc bs : Nat} {h : ah} (hw : lwW b n h kc) (hb1 : 20 * kc ≤ bc) (hb2 : 191 * kc ≤ bs) : aw l E mL_law Z 11 bc bs 26 (lls sb b i0) [] n h := by
  refine aw_aload_n dL_law_26 rfl ?_
  refine aw_iload_n dL_law_27 rfl ?_
  refine aw_sld hG dL_law_28 rfl (by omega) (by omega) ?_
  refine aw_bipush (v := 31) dL_law_29 (by decide) ?_
  refine aw_iand dL_law_31 ?_
  obtain ⟨v, hv, ev⟩ := pk_andE (xs i0) (m := 31) 5 (by decide)
  rw [ev]
  have hv : v < 32 := hv
  rcases (show v = 0 ∨ v = 1 ∨ v = 2 ∨ v = 3 ∨ v = 4 ∨ v = 5 ∨ v = 6 ∨ v = 7 ∨ v = 8 ∨ v = 9 ∨ v = 10 ∨ v = 11 ∨ v = 12 ∨ v = 13 ∨ v = 14 ∨ v = 15 ∨ v = 16 ∨ v = 17 ∨ v = 18 ∨ v = 19 ∨ v = 20 ∨ v = 21 ∨ v = 22 ∨ v = 23 ∨ v = 24 ∨ v = 25 ∨ v = 26 ∨ v = 27 ∨ v = 28 ∨ v = 29 ∨ v = 30 ∨ v = 31 by omega) with rfl | rfl | rfl | rfl | rfl | rfl | rfl | rfl | rfl | rfl | rfl | rfl | rfl | rfl | rfl | rfl | rfl | rfl | rfl | rfl | rfl | rfl | rfl | rfl | rfl | rfl | rfl | rfl | rfl | rfl | rfl | rfl
  · exact aw_tableIn (off := 140) (tgt := 172) dL_law_32 (by decide) (by decide) rfl (by decide) (lc_0 hG hfm hL hL2 K hw hb1 hb2)
  · exact aw_tableIn (off := 153) (tgt := 185) dL_law_32 (by decide) (by decide) rfl (by decide) (lc_1 hG hfm hL hL2 K hw hb1 hb2)
  · exact aw_tableIn (off := 206) (tgt := 238) dL_law_32 (by decide) (by decide) rfl (by decide) (lc_2 hG hfm hL hL2 K hw hb1 hb2)
  · exact aw_tableIn (off := 249) (tgt := 281) dL_law_32 (by decide) (by decide) rfl (by decide) (lc_3 hG hfm hL hL2 K hw hb1 hb2)
  · exact aw_tableIn (off := 272) (tgt := 304) dL_law_32 (by decide) (by decide) rfl (by decide) (lc_4 hG hfm hL hL2 K hw hb1 hb2)
  · exact aw_tableIn (off := 285) (tgt := 317) dL_law_32 (by decide) (by decide) rfl (by decide) (lc_5 hG hfm hL hL2 K hw hb1 hb2)
  · exact aw_tableIn (off := 298) (tgt := 330) dL_law_32 (by decide) (by decide) rfl (by decide) (lc_6 hG hfm hL hL2 K hw hb1 hb2)
  · exact aw_tableIn (off := 331) (tgt := 363) dL_law_32 (by decide) (by decide) rfl (by decide) (lc_7 hG hfm hL hL2 K hw hb1 hb2)
  · exact aw_tableIn (off := 374) (tgt := 406) dL_law_32 (by decide) (by decide) rfl (by decide) (lc_8 hG hfm hL hL2 K hw hb1 hb2)
  · exact aw_tableIn (off := 387) (tgt := 419) dL_law_32 (by decide) (by decide) rfl (by decide) (lc_9 hG hfm hL hL2 K hw hb1 hb2)
  · exact aw_tableIn (off := 400) (tgt := 432) dL_law_32 (by decide) (by decide) rfl (by decide) (lc_10 hG hfm hL hL2 K hw hb1 hb2)
  · exact aw_tableIn (off := 433) (tgt := 465) dL_law_32 (by decide) (by decide) rfl (by decide) (lc_11 hG hfm hL hL2 K hw hb1 hb2)
  · exact aw_tableIn (off := 466) (tgt := 498) dL_law_32 (by decide) (by decide) rfl (by decide) (lc_12 hG hfm hL hL2 K hw hb1 hb2)
  · exact aw_tableIn (off := 479) (tgt := 511) dL_law_32 (by decide) (by decide) rfl (by decide) (lc_13 hG hfm hL hL2 K hw hb1 hb2)
  · exact aw_tableIn (off := 512) (tgt := 544) dL_law_32 (by decide) (by decide) rfl (by decide) (lc_14 hG hfm hL hL2 K hw hb1 hb2)
  · exact aw_tableIn (off := 565) (tgt := 597) dL_law_32 (by decide) (by decide) rfl (by decide) (lc_15 hG hfm hL hL2 K hw hb1 hb2)
  · exact aw_tableIn (off := 598) (tgt := 630) dL_law_32 (by decide) (by decide) rfl (by decide) (lc_16 hG hfm hL hL2 K hw hb1 hb2)
  · exact aw_tableIn (off := 641) (tgt := 673) dL_law_32 (by decide) (by decide) rfl (by decide) (lc_17 hG hfm hL hL2 K hw hb1 hb2)
  · exact aw_tableIn (off := 684) (tgt := 716) dL_law_32 (by decide) (by decide) rfl (by decide) (lc_18 hG hfm hL hL2 K hw hb1 hb2)
  · exact aw_tableIn (off := 737) (tgt := 769) dL_law_32 (by decide) (by decide) rfl (by decide) (lc_19 hG hfm hL hL2 K hw hb1 hb2)
  · exact aw_tableIn (off := 750) (tgt := 782) dL_law_32 (by decide) (by decide) rfl (by decide) (lc_20 hG hfm hL hL2 K hw hb1 hb2)
  · exact aw_tableIn (off := 783) (tgt := 815) dL_law_32 (by decide) (by decide) rfl (by decide) (lc_21 hG hfm hL hL2 K hw hb1 hb2)
  · exact aw_tableIn (off := 806) (tgt := 838) dL_law_32 (by decide) (by decide) rfl (by decide) (lc_22 hG hfm hL hL2 K hw hb1 hb2)
  · exact aw_tableIn (off := 839) (tgt := 871) dL_law_32 (by decide) (by decide) rfl (by decide) (lc_23 hG hfm hL hL2 K hw hb1 hb2)
  · exact aw_tableIn (off := 872) (tgt := 904) dL_law_32 (by decide) (by decide) rfl (by decide) (lc_24 hG hfm hL hL2 K hw hb1 hb2)
  · exact aw_tableIn (off := 905) (tgt := 937) dL_law_32 (by decide) (by decide) rfl (by decide) (lc_25 hG hfm hL hL2 K hw hb1 hb2)
  · exact aw_tableIn (off := 929) (tgt := 961) dL_law_32 (by decide) (by decide) rfl (by decide) (lc_26 hG hfm hL hL2 K hw hb1 hb2)
  · exact aw_tableIn (off := 952) (tgt := 984) dL_law_32 (by decide) (by decide) rfl (by decide) (lc_27 hG hfm hL hL2 K hw hb1 hb2)
  · exact aw_tableIn (off := 975) (tgt := 1007) dL_law_32 (by decide) (by decide) rfl (by decide) (lc_28 hG hfm hL hL2 K hw hb1 hb2)
  · exact aw_tableIn (off := 998) (tgt := 1030) dL_law_32 (by decide) (by decide) rfl (by decide) (lc_29 hG hfm hL hL2 K hw hb1 hb2)
  · exact aw_tableIn (off := 1021) (tgt := 1053) dL_law_32 (by decide) (by decide) rfl (by decide) (lc_30 hG hfm hL hL2 K hw hb1 hb2)
  · exact aw_tableOut (tgt := 1067) dL_law_32 (Or.inr (by decide)) (by decide) (K _ _ _ _ _ hw hb1 hb2)
theorem law_loop (hG : E.2.2.2 = gV E.2.2.1 adK adV fm sb sL xs) (hfm : fm.category = 1) (hL2 : sL ≤ 2560) (hE : ∀ (i0 n bc bs : Nat) (h : ah), aw l E mL_law Z 11 bc bs 1073 (lls sb b i0) [] n h) : ∀ (k i0 n kc bc bs : Nat) (h : ah), sL ≤ i0 + 5 * k → i0 ≤ 2600 → lwW b n h kc → 20 * kc ≤ bc → 191 * kc ≤ bs → aw l E mL_law Z 11 bc bs 18 (lls sb b i0) [] n h := by
  intro k
  induction k with
  | zero =>
    intro i0 n kc bc bs h hk hi hw hb1 hb2
    refine aw_iload_n dL_law_18 rfl ?_
    refine aw_aload_n dL_law_19 rfl ?_
    refine aw_slen hG dL_law_20 ?_
    refine aw_iconst (v := 5) dL_law_21 (by decide) ?_
    refine aw_isub dL_law_22 ?_
    refine aw_icmp_gt (tgt := 1073) dL_law_23 (by decide) (fun _ => hE i0 n bc bs h) (fun c => ?_)
    exfalso
    apply c
    rw [fa_lt, show (5 : Int32) = nI 5 from rfl, pk_sub_toInt (by omega) (by omega), nI_toInt (by omega)]
    omega
  | succ k ih =>
    intro i0 n kc bc bs h hk hi hw hb1 hb2
    refine aw_iload_n dL_law_18 rfl ?_
    refine aw_aload_n dL_law_19 rfl ?_
    refine aw_slen hG dL_law_20 ?_
    refine aw_iconst (v := 5) dL_law_21 (by decide) ?_
    refine aw_isub dL_law_22 ?_
    refine aw_icmp_gt (tgt := 1073) dL_law_23 (by decide) (fun _ => hE i0 n bc bs h) (fun c => ?_)
    have hL : i0 + 5 ≤ sL := by
      rw [fa_lt, show (5 : Int32) = nI 5 from rfl, pk_sub_toInt (by omega) (by omega), nI_toInt (by omega)] at c
      omega
    refine law_body hG hfm hL2 hL (fun n' h' kc' bc' bs' hw' q1 q2 => ?_) hw hb1 hb2
    refine aw_inc (w := 5) dL_law_1067 rfl (by decide) (by decide) ?_
    refine aw_goto (tgt := 18) dL_law_1070 (by decide) ?_
    have e5 : nI i0 + 5 = nI (i0 + 5) := nI_add i0 5
    have hK2 : aw l E mL_law Z 11 bc' bs' 18 [(0, .ref sb), (1, .ref b), (2, .ref (b + 49)), (3, .int (nI i0 + 5))] [] n' h' := by
      rw [e5]
      exact ih (i0 + 5) n' kc' bc' bs' h' (by omega) (by omega) hw' q1 q2
    exact aw_loc [0, 1, 2, 3] rfl hK2
theorem x_lo {h h' : ah} {x : Nat} {g : Nat → Option Nat} {X : sX} (H : is_x h x g X) (o : ∀ a : Nat, a < x + 49 → h' a = h a) : is_x h' x g X :=
  ⟨⟨(o x (by omega)).trans H.1.1, (o (x + 41) (by omega)).trans H.1.2⟩, fun j hj => (o (x + 1 + j) (by omega)).trans (H.2.1 j hj), fun j hj => (o (x + 21 + j) (by omega)).trans (H.2.2.1 j hj), fun j hj => (o (x + 42 + j) (by omega)).trans (H.2.2.2.1 j hj), fun j hj => (o (x + 44 + j) (by omega)).trans (H.2.2.2.2 j hj)⟩
theorem lw_0 {h : ah} (hx : is_x h b gNo X00) (hm : is_mo h (b + 49) (mBegin T00) L00) : lwW b (b + 70) h 2 := by
  refine ⟨gNo, X00, mBegin T00, L00, fun _ => T00, hx, hm, ⟨0, 0, 0, 0, ?_⟩, fun a _ => ⟨fun _ => rfl, (fun s hs => by cases hs)⟩, ⟨(fun a s _ hs => by cases hs), (fun s s' hs => by cases hs), Nat.le_refl _⟩, Nat.le_refl _⟩
  exact ⟨⟨⟨by decide, by decide, by decide⟩, ⟨rfl, rfl, rfl, rfl, rfl, rfl, rfl, rfl⟩, fun j hj => absurd hj (by omega), fun j hj => absurd hj (by omega), fun j hj => absurd hj (by omega), pgood0 _ _, lgood0, fun j hj => absurd hj (by omega)⟩, ⟨by decide, rfl, rfl, fun j hj => absurd hj (by omega)⟩, ⟨rfl, rfl⟩, rfl, rfl, rfl⟩
set_option maxHeartbeats 4000000 in
set_option maxRecDepth 100000 in
theorem law_begin (hG : E.2.2.2 = gV E.2.2.1 adK adV fm sb sL xs) (hfm : fm.category = 1) (hL2 : sL ≤ 2560) (hE : ∀ (i0 n bc bs : Nat) (h : ah), aw l E mL_law Z 11 bc bs 1073 (lls sb b i0) [] n h) : aw l E mL_law Z 11 110 1831 0 [(0, .ref sb)] [] b (fun _ => none) := by
  refine aw_new1 (bc' := 109) (bs' := 1821) (n1 := b + 1) dL_law_0 nwL_7 (by decide) (by decide) rfl (fun h1 f0 _ => ?_)
  refine aw_dup dL_law_3 rfl ?_
  refine aw_callI0 (d := 10) (bc' := 61) (bs' := 1164) dL_law_4 cmX11_init ciL_9 (Nat.le_of_ble_eq_true rfl) (tX11_init (d := 5) hG f0) (by decide) (by decide) (fun r n1 h2 hq => ?_)
  obtain ⟨rfl, rfl, hX, -⟩ := hq
  refine aw_astore_n dL_law_7 (by decide) ?_
  refine aw_new1 (bc' := 60) (bs' := 1131) (n1 := b + 49 + 1) dL_law_8 nwL_10 (by decide) (by decide) rfl (fun h3 f1 o1 => ?_)
  have hX1 := x_lo hX o1
  refine aw_dup dL_law_11 rfl ?_
  refine aw_callI0 (d := 10) (bc' := 40) (bs' := 382) dL_law_12 cmX12_init ciL_12 (Nat.le_of_ble_eq_true rfl) (tX12_init (d := 9) f1) (by decide) (by decide) (fun r n1 h4 hq => ?_)
  obtain ⟨rfl, rfl, hM, o2⟩ := hq
  have hX2 := x_lo hX1 o2
  refine aw_astore_n dL_law_15 (by decide) ?_
  refine aw_iconst (v := 0) dL_law_16 (by decide) ?_
  refine aw_istore_n dL_law_17 (by decide) ?_
  exact aw_loc [0, 1, 2, 3] rfl (law_loop hG hfm hL2 hE 520 0 (b + 70) 2 40 382 h4 (by omega) (by omega) (lw_0 hX2 hM) (by decide) (by decide))
end LOOP
