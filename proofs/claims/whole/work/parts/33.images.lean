/-! IMAGES: the class's own. -/
theorem w01 {a : Nat} {i : Int32} (ha : a < 2) (hi : i = nI a) : ¬ iW i 0 1 = 0 := by
  subst hi
  rcases (show a = 0 ∨ a = 1 by omega) with rfl | rfl <;> decide
theorem va_up_at {α : Type} (f : Nat → α) (k : Nat) (v : α) : va_up f k v k = v := by simp [va_up]
set_option maxHeartbeats 1000000 in
set_option maxRecDepth 100000 in
theorem tX11_imageB {l : Launch} {E : aw_E} {d n x : Nat} {h0 : ah} {g : Nat → Option Nat} {C : sT} {L : Nat → Int64} {T A R V : sT} (hX : is_x h0 x g (C, L, T, A, R, V)) {i : Int32} (hi : iW i 0 1 = 0) : am l E mX11_image (d + 5) 0 0 [.ref x, .int i] n h0 (x_post n h0 x g (-2, xB C, L, T, A, R, V)) := by
  refine am_of (by decide +kernel) (Nat.le_of_ble_eq_true rfl) ?_
  obtain ⟨hC, hT, hA, hR, hW⟩ := hX
  dsimp only at hC hT hA hR hW
  have hF : ah_off h0 h0 x 49 := ah_off.rf
  refine aw_iload_n dX11_image_0 rfl ?_
  refine aw_iconst (v := 0) dX11_image_1 (by decide) ?_
  refine aw_iconst (v := 1) dX11_image_2 (by decide) ?_
  refine aw_callS3p dX11_image_3 cmX11_within csX11_51 (Nat.le_of_ble_eq_true rfl) tX11_within ?_
  refine aw_if_ne (tgt := 14) dX11_image_6 (by decide) (fun c => absurd hi c) (fun c => ?_)
  refine aw_aload_n dX11_image_9 rfl ?_
  refine aw_callV0e dX11_image_10 cmX11_refuseBad cvX11_55 (hg_c0 hC) (Nat.le_of_ble_eq_true rfl) (tX11_refuseBad hC) (fun r n' h' hq => ?_)
  obtain ⟨rfl, rfl, hC, ho⟩ := hq
  have hT := tr_off hT ho (by omega)
  have hA := tr_off hA ho (by omega)
  have hR := rd_off hR ho (by omega)
  have hW := wy_off hW ho (by omega)
  have hF := hF.trans (ho.wide (by omega) (by omega))
  exact aw_iret dX11_image_13 rfl (x_fin rfl hC hT hA hR hW hF)
set_option maxHeartbeats 1000000 in
set_option maxRecDepth 100000 in
theorem tX11_fromB {l : Launch} {E : aw_E} {d n x : Nat} {h0 : ah} {g : Nat → Option Nat} {C : sT} {L : Nat → Int64} {T A R V : sT} (hX : is_x h0 x g (C, L, T, A, R, V)) {i : Int32} (hi : iW i 0 1 = 0) : am l E mX11_from (d + 2) 0 0 [.ref x, .int i] n h0 (x_post n h0 x g (-2, xB C, L, T, A, R, V)) := by
  refine am_of (by decide +kernel) (Nat.le_of_ble_eq_true rfl) ?_
  obtain ⟨hC, hT, hA, hR, hW⟩ := hX
  dsimp only at hC hT hA hR hW
  have hF : ah_off h0 h0 x 49 := ah_off.rf
  refine aw_iload_n dX11_from_0 rfl ?_
  refine aw_iconst (v := 0) dX11_from_1 (by decide) ?_
  refine aw_iconst (v := 1) dX11_from_2 (by decide) ?_
  refine aw_callS3p dX11_from_3 cmX11_within csX11_51 (Nat.le_of_ble_eq_true rfl) tX11_within ?_
  refine aw_if_ne (tgt := 14) dX11_from_6 (by decide) (fun c => absurd hi c) (fun c => ?_)
  refine aw_aload_n dX11_from_9 rfl ?_
  refine aw_callV0e dX11_from_10 cmX11_refuseBad cvX11_55 (hg_c0 hC) (Nat.le_of_ble_eq_true rfl) (tX11_refuseBad hC) (fun r n' h' hq => ?_)
  obtain ⟨rfl, rfl, hC, ho⟩ := hq
  have hT := tr_off hT ho (by omega)
  have hA := tr_off hA ho (by omega)
  have hR := rd_off hR ho (by omega)
  have hW := wy_off hW ho (by omega)
  have hF := hF.trans (ho.wide (by omega) (by omega))
  exact aw_iret dX11_from_13 rfl (x_fin rfl hC hT hA hR hW hF)
set_option maxHeartbeats 1000000 in
set_option maxRecDepth 100000 in
theorem tX11_fromN {l : Launch} {E : aw_E} {d n x : Nat} {h0 : ah} {g : Nat → Option Nat} {C : sT} {L : Nat → Int64} {T A R V : sT} (hX : is_x h0 x g (C, L, T, A, R, V)) {i : Int32} {a : Nat} (ha : a < 2) (hi : i = nI a) (hga : g a = none) : am l E mX11_from (d + 2) 0 0 [.ref x, .int i] n h0 (x_post n h0 x g (-3, xN C, L, T, A, R, V)) := by
  refine am_of (by decide +kernel) (Nat.le_of_ble_eq_true rfl) ?_
  obtain ⟨hC, hT, hA, hR, hW⟩ := hX
  dsimp only at hC hT hA hR hW
  have hF : ah_off h0 h0 x 49 := ah_off.rf
  refine aw_iload_n dX11_from_0 rfl ?_
  refine aw_iconst (v := 0) dX11_from_1 (by decide) ?_
  refine aw_iconst (v := 1) dX11_from_2 (by decide) ?_
  refine aw_callS3p dX11_from_3 cmX11_within csX11_51 (Nat.le_of_ble_eq_true rfl) tX11_within ?_
  refine aw_if_ne (tgt := 14) dX11_from_6 (by decide) (fun c => ?_) (fun c => absurd c (w01 ha hi))
  refine aw_aload_n dX11_from_14 rfl ?_
  refine aw_get dX11_from_15 flX11_19 (hg_c0 hC) rfl ?_
  refine aw_iload_n dX11_from_18 rfl ?_
  refine aw_aald1 (j := a) dX11_from_19 (hg_c41 hC) hi ha (by decide) (show va_rf (g a) = .null by rw [hga]; rfl) ?_
  refine aw_ifnonnullN dX11_from_20 ?_
  refine aw_aload_n dX11_from_23 rfl ?_
  refine aw_callV0e dX11_from_24 cmX11_refuseNo cvX11_116 (hg_c0 hC) (Nat.le_of_ble_eq_true rfl) (tX11_refuseNo hC) (fun r n' h' hq => ?_)
  obtain ⟨rfl, rfl, hC, ho⟩ := hq
  have hT := tr_off hT ho (by omega)
  have hA := tr_off hA ho (by omega)
  have hR := rd_off hR ho (by omega)
  have hW := wy_off hW ho (by omega)
  have hF := hF.trans (ho.wide (by omega) (by omega))
  exact aw_iret dX11_from_27 rfl (x_fin rfl hC hT hA hR hW hF)
set_option maxHeartbeats 1000000 in
set_option maxRecDepth 100000 in
theorem tX11_fromS {l : Launch} {E : aw_E} {d n x : Nat} {h0 : ah} {g : Nat → Option Nat} {C : sT} {L : Nat → Int64} {T A R V : sT} (hX : is_x h0 x g (C, L, T, A, R, V)) {i : Int32} {a : Nat} (ha : a < 2) (hi : i = nI a) {s : Nat} {I : sT} (hga : g a = some s) (hI : is_tr h0 s I) (hs : x + 49 ≤ s) : am l E mX11_from (d + 2) 0 0 [.ref x, .int i] n h0 (x_post n h0 x g (1, C, L, trCopyF I T, A, R, V)) := by
  refine am_of (by decide +kernel) (Nat.le_of_ble_eq_true rfl) ?_
  obtain ⟨hC, hT, hA, hR, hW⟩ := hX
  dsimp only at hC hT hA hR hW
  have hF : ah_off h0 h0 x 49 := ah_off.rf
  refine aw_iload_n dX11_from_0 rfl ?_
  refine aw_iconst (v := 0) dX11_from_1 (by decide) ?_
  refine aw_iconst (v := 1) dX11_from_2 (by decide) ?_
  refine aw_callS3p dX11_from_3 cmX11_within csX11_51 (Nat.le_of_ble_eq_true rfl) tX11_within ?_
  refine aw_if_ne (tgt := 14) dX11_from_6 (by decide) (fun c => ?_) (fun c => absurd c (w01 ha hi))
  refine aw_aload_n dX11_from_14 rfl ?_
  refine aw_get dX11_from_15 flX11_19 (hg_c0 hC) rfl ?_
  refine aw_iload_n dX11_from_18 rfl ?_
  refine aw_aald1 (j := a) dX11_from_19 (hg_c41 hC) hi ha (by decide) (show va_rf (g a) = .ref s by rw [hga]; rfl) ?_
  refine aw_ifnonnull (tgt := 28) dX11_from_20 (by decide) ?_
  refine aw_aload_n dX11_from_28 rfl ?_
  refine aw_get dX11_from_29 flX11_10 (hg_c0 hC) rfl ?_
  refine aw_aload_n dX11_from_32 rfl ?_
  refine aw_get dX11_from_33 flX11_19 (hg_c0 hC) rfl ?_
  refine aw_iload_n dX11_from_36 rfl ?_
  refine aw_aald1 (j := a) dX11_from_37 (hg_c41 hC) hi ha (by decide) (show va_rf (g a) = .ref s by rw [hga]; rfl) ?_
  refine aw_callV1e dX11_from_38 cmX9_copyFrom cvX11_96 (tr_c0 hT) (Nat.le_of_ble_eq_true rfl) (tX9_copyFrom hT hI (by omega)) (fun r n' h' hq => ?_)
  obtain ⟨rfl, rfl, hT, ho⟩ := hq
  have hC := hg_off hC ho (by omega) (by omega)
  have hA := tr_off hA ho (by omega)
  have hR := rd_off hR ho (by omega)
  have hW := wy_off hW ho (by omega)
  have hF := hF.trans (ho.wide (by omega) (by omega))
  refine aw_iconst (v := 1) dX11_from_41 (by decide) ?_
  exact aw_iret dX11_from_42 rfl (x_fin rfl hC hT hA hR hW hF)
set_option maxHeartbeats 1000000 in
set_option maxRecDepth 100000 in
theorem tX11_imageS {l : Launch} {E : aw_E} {d n x : Nat} {h0 : ah} {g : Nat → Option Nat} {C : sT} {L : Nat → Int64} {T A R V : sT} (hX : is_x h0 x g (C, L, T, A, R, V)) {i : Int32} {a : Nat} (ha : a < 2) (hi : i = nI a) {s : Nat} {I : sT} (hga : g a = some s) (hI : is_tr h0 s I) (hs : x + 49 ≤ s) : am l E mX11_image (d + 5) 0 0 [.ref x, .int i] n h0 (fun r n' h' => some (.int 1) = r ∧ n = n' ∧ is_x h' x g (C, L, T, A, R, V) ∧ is_tr h' s (trCopyF T I) ∧ ah_off h0 h' s 20) := by
  refine am_of (by decide +kernel) (Nat.le_of_ble_eq_true rfl) ?_
  obtain ⟨hC, hT, hA, hR, hW⟩ := hX
  dsimp only at hC hT hA hR hW
  have hF : ah_off h0 h0 x 49 := ah_off.rf
  refine aw_iload_n dX11_image_0 rfl ?_
  refine aw_iconst (v := 0) dX11_image_1 (by decide) ?_
  refine aw_iconst (v := 1) dX11_image_2 (by decide) ?_
  refine aw_callS3p dX11_image_3 cmX11_within csX11_51 (Nat.le_of_ble_eq_true rfl) tX11_within ?_
  refine aw_if_ne (tgt := 14) dX11_image_6 (by decide) (fun c => ?_) (fun c => absurd c (w01 ha hi))
  refine aw_aload_n dX11_image_14 rfl ?_
  refine aw_get dX11_image_15 flX11_19 (hg_c0 hC) rfl ?_
  refine aw_iload_n dX11_image_18 rfl ?_
  refine aw_aald1 (j := a) dX11_image_19 (hg_c41 hC) hi ha (by decide) (show va_rf (g a) = .ref s by rw [hga]; rfl) ?_
  refine aw_ifnonnull (tgt := 36) dX11_image_20 (by decide) ?_
  refine aw_aload_n dX11_image_36 rfl ?_
  refine aw_get dX11_image_37 flX11_19 (hg_c0 hC) rfl ?_
  refine aw_iload_n dX11_image_40 rfl ?_
  refine aw_aald1 (j := a) dX11_image_41 (hg_c41 hC) hi ha (by decide) (show va_rf (g a) = .ref s by rw [hga]; rfl) ?_
  refine aw_aload_n dX11_image_42 rfl ?_
  refine aw_get dX11_image_43 flX11_10 (hg_c0 hC) rfl ?_
  refine aw_callV1e dX11_image_46 cmX9_copyFrom cvX11_96 (tr_c0 hI) (Nat.le_of_ble_eq_true rfl) (tX9_copyFrom hI hT (by omega)) (fun r n' h' hq => ?_)
  obtain ⟨rfl, rfl, hI, ho⟩ := hq
  have hX : is_x h' x g (C, L, T, A, R, V) := x_off (X := (C, L, T, A, R, V)) ⟨hC, hT, hA, hR, hW⟩ ho (by omega)
  refine aw_iconst (v := 1) dX11_image_49 (by decide) ?_
  exact aw_iret dX11_image_50 rfl ⟨rfl, rfl, hX, hI, ho⟩
set_option maxHeartbeats 1000000 in
set_option maxRecDepth 100000 in
theorem tX11_imageN {l : Launch} {E : aw_E} {d n x : Nat} {h0 : ah} {g : Nat → Option Nat} {C : sT} {L : Nat → Int64} {T A R V : sT} (hX : is_x h0 x g (C, L, T, A, R, V)) {base : Nat} {adK adV : Nat → Nat} {fm : Value} {sb sL : Nat} {xs : Nat → Int32} (hG : E.2.2.2 = gV base adK adV fm sb sL xs) {i : Int32} {a : Nat} (ha : a < 2) (hi : i = nI a) (hga : g a = none) (hn : x + 49 ≤ n) : am l E mX11_image (d + 5) 20 191 [.ref x, .int i] n h0 (fun r n' h' => some (.int 1) = r ∧ n + 20 = n' ∧ is_x h' x (va_up g a (some n)) (C, L, T, A, R, V) ∧ is_tr h' n (trCopyF T T00) ∧ ∀ q : Nat, q < n → (q < x ∨ x + 49 ≤ q) → h' q = h0 q) := by
  refine am_of (by decide +kernel) (Nat.le_of_ble_eq_true rfl) ?_
  obtain ⟨hC, hT, hA, hR, hW⟩ := hX
  dsimp only at hC hT hA hR hW
  have hF : ah_off h0 h0 x 49 := ah_off.rf
  refine aw_iload_n dX11_image_0 rfl ?_
  refine aw_iconst (v := 0) dX11_image_1 (by decide) ?_
  refine aw_iconst (v := 1) dX11_image_2 (by decide) ?_
  refine aw_callS3p dX11_image_3 cmX11_within csX11_51 (Nat.le_of_ble_eq_true rfl) tX11_within ?_
  refine aw_if_ne (tgt := 14) dX11_image_6 (by decide) (fun c => ?_) (fun c => absurd c (w01 ha hi))
  refine aw_aload_n dX11_image_14 rfl ?_
  refine aw_get dX11_image_15 flX11_19 (hg_c0 hC) rfl ?_
  refine aw_iload_n dX11_image_18 rfl ?_
  refine aw_aald1 (j := a) dX11_image_19 (hg_c41 hC) hi ha (by decide) (show va_rf (g a) = .null by rw [hga]; rfl) ?_
  refine aw_ifnonnullN dX11_image_20 ?_
  refine aw_aload_n dX11_image_23 rfl ?_
  refine aw_get dX11_image_24 flX11_19 (hg_c0 hC) rfl ?_
  refine aw_iload_n dX11_image_27 rfl ?_
  refine aw_new1 (n1 := n + 1) (bc' := 19) (bs' := 179) dX11_image_28 nwX11_7 (by decide) (by decide) rfl (fun h1 f ho => ?_)
  have hq1 : ∀ q : Nat, q < n → h1 q = h0 q := ho
  have hC := hg_lt hC ho (by omega)
  have hT := tr_lt hT ho (by omega)
  have hA := tr_lt hA ho (by omega)
  have hR := rd_lt hR ho (by omega)
  have hW := wy_lt hW ho (by omega)
  refine aw_dup dX11_image_31 rfl ?_
  refine aw_callI0 (mc' := 19) (ms' := 179) (bc' := 0) (bs' := 0) dX11_image_32 cmX9_init ciX11_9 (Nat.le_of_ble_eq_true rfl) (tX9_init hG (b := n) f) (by decide) (by decide) (fun r n' h2 hq => ?_)
  obtain ⟨rfl, rfl, hN, ho⟩ := hq
  have hq2 : ∀ q : Nat, q < n → h2 q = h0 q := fun q hh => (ho q hh).trans (hq1 q hh)
  have hC := hg_lt hC ho (by omega)
  have hT := tr_lt hT ho (by omega)
  have hA := tr_lt hA ho (by omega)
  have hR := rd_lt hR ho (by omega)
  have hW := wy_lt hW ho (by omega)
  refine aw_aast1 (j := a) dX11_image_35 (hg_c41 hC) hi ha (by decide) (tr_c0 hN) ok_tr (fun h3 f3 ho => ?_)
  have hC : is_hg h3 x C L (va_up g a (some n)) := ⟨(ho x (by omega)).trans hC.1, f3⟩
  have hT := tr_ne hT ho (by omega)
  have hA := tr_ne hA ho (by omega)
  have hR := rd_ne hR ho (by omega)
  have hW := wy_ne hW ho (by omega)
  have hN := tr_ne hN ho (by omega)
  have hq3 : ∀ q : Nat, q < n → (q < x ∨ x + 49 ≤ q) → h3 q = h0 q := fun q hh hg => (ho q (by omega)).trans (hq2 q hh)
  refine aw_aload_n dX11_image_36 rfl ?_
  refine aw_get dX11_image_37 flX11_19 (hg_c0 hC) rfl ?_
  refine aw_iload_n dX11_image_40 rfl ?_
  refine aw_aald1 (j := a) dX11_image_41 (hg_c41 hC) hi ha (by decide) (show va_rf (va_up g a (some n) a) = .ref n by rw [va_up_at]; rfl) ?_
  refine aw_aload_n dX11_image_42 rfl ?_
  refine aw_get dX11_image_43 flX11_10 (hg_c0 hC) rfl ?_
  refine aw_callV1e dX11_image_46 cmX9_copyFrom cvX11_96 (tr_c0 hN) (Nat.le_of_ble_eq_true rfl) (tX9_copyFrom hN hT (by omega)) (fun r n' h' hq => ?_)
  obtain ⟨rfl, rfl, hN, ho⟩ := hq
  have hX : is_x h' x (va_up g a (some n)) (C, L, T, A, R, V) := x_off (X := (C, L, T, A, R, V)) ⟨hC, hT, hA, hR, hW⟩ ho (by omega)
  refine aw_iconst (v := 1) dX11_image_49 (by decide) ?_
  exact aw_iret dX11_image_50 rfl ⟨rfl, rfl, hX, hN, fun q hh hg => (ho q (Or.inl hh)).trans (hq3 q hh hg)⟩
