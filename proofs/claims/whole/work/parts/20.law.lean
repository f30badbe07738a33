def zo_0 (Rv : zz_I → zz_L → zz_I → zz_L → Prop) : Prop := ∀ (IC : zz_I) (LC : zz_L) (IM : zz_I) (LM : zz_L) (p0 : Int32), Rv IC LC IM LM → zp_X7_write p0 (fun r IC2 LC2 => zp_X8_write p0 (fun r2 IM2 LM2 => r = r2 ∧ Rv IC2 LC2 IM2 LM2) IM LM) IC LC
set_option maxHeartbeats 4000000 in
set_option maxRecDepth 100000 in
theorem zl_case_0 {p : Program} {l : Launch} {e : Env} {s : State} {m : MethodId} {below : List Frame} {meth : Method} {c : Code} {D : va_G} {ca : Nat → ClassId} {b L : Nat} {xs : Nat → Int32} (hL : L ≤ 2048) (C0 : lw_At p s m meth c b L xs) (zw : zz_W s) {Rv : zz_I → zz_L → zz_I → zz_L → Prop} (hob : zo_0 Rv) {i cells slots : Nat} {x3 : Int32} (hi4 : 4 * i + 4 ≤ L) (ex3 : x3 = nI (4 * i)) {aC aM : Nat → Nat} {IC IM : zz_I} {LC LM : zz_L} {H : Heap} {locs : List Loc} {ls : Array Slot} (hR : Rv IC LC IM LM) (hB : zl_B D ca s aC IC LC aM IM LM H locs) (hc : cells ≤ 200 + i) (hs : slots ≤ 40000 + 14016 * i) (hl : lv_has ls 4 [(0, .ref b), (1, .ref (aC 0)), (2, .ref (aM 0)), (3, .int x3)]) (ih : ∀ (cells slots : Nat) (aC : Nat → Nat) (IC : zz_I) (LC : zz_L) (aM : Nat → Nat) (IM : zz_I) (LM : zz_L) (H : Heap) (locs : List Loc) (ls : Array Slot), Rv IC LC IM LM → zl_B D ca s aC IC LC aM IM LM H locs → cells ≤ 201 + i → slots ≤ 54016 + 14016 * i → lv_has ls 4 [(0, .ref b), (1, .ref (aC 0)), (2, .ref (aM 0)), (3, .int x3)] → W p l e room_1 s m #[Value.ref b] below meth c H locs cells slots (lw_Z below #[Value.ref b] s) (F0 m 1076 ls [])) : W p l e room_1 s m #[Value.ref b] below meth c H locs cells slots (lw_Z below #[Value.ref b] s) (F0 m 168 ls []) := by
  obtain ⟨hx, hb, hr, hml, hown, hts, hX, hbl, hlocks, hgv⟩ := C0
  have hbA : ¬ (zl_A s) b := Nat.not_le.mpr hbl
  have hS := hB.1.2.2.2
  have hiL : i ≤ 511 := by omega
  have hi1 : vp_in (x3 + (1 : Int32)) L := by rw [ex3, show nI (4 * i) + (1 : Int32) = nI (4 * i + 1) from nI_add _ _]; exact vp_in_nI (by omega) (by omega)
  have hi2 : vp_in (x3 + (2 : Int32)) L := by rw [ex3, show nI (4 * i) + (2 : Int32) = nI (4 * i + 2) from nI_add _ _]; exact vp_in_nI (by omega) (by omega)
  have hi3 : vp_in (x3 + (3 : Int32)) L := by rw [ex3, show nI (4 * i) + (3 : Int32) = nI (4 * i + 3) from nI_add _ _]; exact vp_in_nI (by omega) (by omega)
  have hO := hob IC LC IM LM (xs (x3 + (1 : Int32)).toNatClampNeg) hR
  refine lv_aload_n hx hb dL_law_168 rfl (lv_at hl 1 rfl) ?_
  refine lv_aload_n hx hb dL_law_169 rfl (lv_at hl 0 rfl) ?_
  refine lv_iload_n hx hb dL_law_170 rfl (lv_at hl 3 rfl) ?_
  refine lv_iconst (v := (1 : Int32)) hx hb dL_law_171 (by decide) ?_
  refine lv_iadd hx hb dL_law_172 ?_
  refine va_sld hx hb hX hbl hbA hS hi1 dL_law_173 ?_
  refine zl_Ci hB (zz_runV (As := [.int (xs (x3 + (1 : Int32)).toNatClampNeg)]) (rest := []) hx hb hml hown zw hB.1 zM_L_13 (zc_X7_write l D ca aC IC LC H.size hO) zdC_0 rfl rfl hl.1 rfl (Nat.le_of_ble_eq_true rfl) rfl rfl ⟨Nat.le_of_ble_eq_true rfl, Nat.le_of_ble_eq_true rfl⟩ dL_law_174 ⟨by show cells + 0 ≤ 600000; omega, by show slots + 0 ≤ 7302250; omega⟩) (fun r IC LC H locs hO hB => ?_)
  have hS := hB.1.2.2.2
  refine lv_aload_n hx hb dL_law_177 rfl (lv_at hl 2 rfl) ?_
  refine lv_aload_n hx hb dL_law_178 rfl (lv_at hl 0 rfl) ?_
  refine lv_iload_n hx hb dL_law_179 rfl (lv_at hl 3 rfl) ?_
  refine lv_iconst (v := (1 : Int32)) hx hb dL_law_180 (by decide) ?_
  refine lv_iadd hx hb dL_law_181 ?_
  refine va_sld hx hb hX hbl hbA hS hi1 dL_law_182 ?_
  refine zl_Mi hB (zz_runV (As := [.int (xs (x3 + (1 : Int32)).toNatClampNeg)]) (rest := [.int r]) hx hb hml hown zw hB.2.1 zM_L_17 (zc_X8_write l D ca aM IM LM H.size hO) zdM_0 rfl rfl hl.1 rfl (Nat.le_of_ble_eq_true rfl) rfl rfl ⟨Nat.le_of_ble_eq_true rfl, Nat.le_of_ble_eq_true rfl⟩ dL_law_183 ⟨by show cells + 0 ≤ 600000; omega, by show slots + 0 ≤ 7302250; omega⟩) (fun r2 IM LM H locs hO hB => ?_)
  refine lv_icmp_eq (tgt := 1076) hx hb dL_law_186 (by decide) (fun cq => ?_) (fun cq => absurd hO.1 cq)
  exact ih cells slots aC IC LC aM IM LM H locs ls hO.2 hB (by omega) (by omega) hl
def zo_1 (Rv : zz_I → zz_L → zz_I → zz_L → Prop) : Prop := ∀ (IC : zz_I) (LC : zz_L) (IM : zz_I) (LM : zz_L), Rv IC LC IM LM → zp_X7_wipe  (fun r IC2 LC2 => zp_X8_wipe  (fun r2 IM2 LM2 => r = r2 ∧ Rv IC2 LC2 IM2 LM2) IM LM) IC LC
set_option maxHeartbeats 4000000 in
set_option maxRecDepth 100000 in
theorem zl_case_1 {p : Program} {l : Launch} {e : Env} {s : State} {m : MethodId} {below : List Frame} {meth : Method} {c : Code} {D : va_G} {ca : Nat → ClassId} {b L : Nat} {xs : Nat → Int32} (hL : L ≤ 2048) (C0 : lw_At p s m meth c b L xs) (zw : zz_W s) {Rv : zz_I → zz_L → zz_I → zz_L → Prop} (hob : zo_1 Rv) {i cells slots : Nat} {x3 : Int32} (hi4 : 4 * i + 4 ≤ L) (ex3 : x3 = nI (4 * i)) {aC aM : Nat → Nat} {IC IM : zz_I} {LC LM : zz_L} {H : Heap} {locs : List Loc} {ls : Array Slot} (hR : Rv IC LC IM LM) (hB : zl_B D ca s aC IC LC aM IM LM H locs) (hc : cells ≤ 200 + i) (hs : slots ≤ 40000 + 14016 * i) (hl : lv_has ls 4 [(0, .ref b), (1, .ref (aC 0)), (2, .ref (aM 0)), (3, .int x3)]) (ih : ∀ (cells slots : Nat) (aC : Nat → Nat) (IC : zz_I) (LC : zz_L) (aM : Nat → Nat) (IM : zz_I) (LM : zz_L) (H : Heap) (locs : List Loc) (ls : Array Slot), Rv IC LC IM LM → zl_B D ca s aC IC LC aM IM LM H locs → cells ≤ 201 + i → slots ≤ 54016 + 14016 * i → lv_has ls 4 [(0, .ref b), (1, .ref (aC 0)), (2, .ref (aM 0)), (3, .int x3)] → W p l e room_1 s m #[Value.ref b] below meth c H locs cells slots (lw_Z below #[Value.ref b] s) (F0 m 1076 ls [])) : W p l e room_1 s m #[Value.ref b] below meth c H locs cells slots (lw_Z below #[Value.ref b] s) (F0 m 191 ls []) := by
  obtain ⟨hx, hb, hr, hml, hown, hts, hX, hbl, hlocks, hgv⟩ := C0
  have hbA : ¬ (zl_A s) b := Nat.not_le.mpr hbl
  have hS := hB.1.2.2.2
  have hiL : i ≤ 511 := by omega
  have hi1 : vp_in (x3 + (1 : Int32)) L := by rw [ex3, show nI (4 * i) + (1 : Int32) = nI (4 * i + 1) from nI_add _ _]; exact vp_in_nI (by omega) (by omega)
  have hi2 : vp_in (x3 + (2 : Int32)) L := by rw [ex3, show nI (4 * i) + (2 : Int32) = nI (4 * i + 2) from nI_add _ _]; exact vp_in_nI (by omega) (by omega)
  have hi3 : vp_in (x3 + (3 : Int32)) L := by rw [ex3, show nI (4 * i) + (3 : Int32) = nI (4 * i + 3) from nI_add _ _]; exact vp_in_nI (by omega) (by omega)
  have hO := hob IC LC IM LM  hR
  refine lv_aload_n hx hb dL_law_191 rfl (lv_at hl 1 rfl) ?_
  refine zl_Ci hB (zz_runV (As := []) (rest := []) hx hb hml hown zw hB.1 zM_L_18 (zc_X7_wipe l D ca aC IC LC H.size hO) zdC_0 rfl rfl hl.1 rfl (Nat.le_of_ble_eq_true rfl) rfl rfl ⟨Nat.le_of_ble_eq_true rfl, Nat.le_of_ble_eq_true rfl⟩ dL_law_192 ⟨by show cells + 0 ≤ 600000; omega, by show slots + 0 ≤ 7302250; omega⟩) (fun r IC LC H locs hO hB => ?_)
  have hS := hB.1.2.2.2
  refine lv_aload_n hx hb dL_law_195 rfl (lv_at hl 2 rfl) ?_
  refine zl_Mi hB (zz_runV (As := []) (rest := [.int r]) hx hb hml hown zw hB.2.1 zM_L_22 (zc_X8_wipe l D ca aM IM LM H.size hO) zdM_0 rfl rfl hl.1 rfl (Nat.le_of_ble_eq_true rfl) rfl rfl ⟨Nat.le_of_ble_eq_true rfl, Nat.le_of_ble_eq_true rfl⟩ dL_law_196 ⟨by show cells + 0 ≤ 600000; omega, by show slots + 0 ≤ 7302250; omega⟩) (fun r2 IM LM H locs hO hB => ?_)
  refine lv_icmp_eq (tgt := 1076) hx hb dL_law_199 (by decide) (fun cq => ?_) (fun cq => absurd hO.1 cq)
  exact ih cells slots aC IC LC aM IM LM H locs ls hO.2 hB (by omega) (by omega) hl
def zo_2 (Rv : zz_I → zz_L → zz_I → zz_L → Prop) : Prop := ∀ (IC : zz_I) (LC : zz_L) (IM : zz_I) (LM : zz_L), Rv IC LC IM LM → zp_X7_fault  (fun r IC2 LC2 => zp_X8_fault  (fun r2 IM2 LM2 => r = r2 ∧ Rv IC2 LC2 IM2 LM2) IM LM) IC LC
set_option maxHeartbeats 4000000 in
set_option maxRecDepth 100000 in
theorem zl_case_2 {p : Program} {l : Launch} {e : Env} {s : State} {m : MethodId} {below : List Frame} {meth : Method} {c : Code} {D : va_G} {ca : Nat → ClassId} {b L : Nat} {xs : Nat → Int32} (hL : L ≤ 2048) (C0 : lw_At p s m meth c b L xs) (zw : zz_W s) {Rv : zz_I → zz_L → zz_I → zz_L → Prop} (hob : zo_2 Rv) {i cells slots : Nat} {x3 : Int32} (hi4 : 4 * i + 4 ≤ L) (ex3 : x3 = nI (4 * i)) {aC aM : Nat → Nat} {IC IM : zz_I} {LC LM : zz_L} {H : Heap} {locs : List Loc} {ls : Array Slot} (hR : Rv IC LC IM LM) (hB : zl_B D ca s aC IC LC aM IM LM H locs) (hc : cells ≤ 200 + i) (hs : slots ≤ 40000 + 14016 * i) (hl : lv_has ls 4 [(0, .ref b), (1, .ref (aC 0)), (2, .ref (aM 0)), (3, .int x3)]) (ih : ∀ (cells slots : Nat) (aC : Nat → Nat) (IC : zz_I) (LC : zz_L) (aM : Nat → Nat) (IM : zz_I) (LM : zz_L) (H : Heap) (locs : List Loc) (ls : Array Slot), Rv IC LC IM LM → zl_B D ca s aC IC LC aM IM LM H locs → cells ≤ 201 + i → slots ≤ 54016 + 14016 * i → lv_has ls 4 [(0, .ref b), (1, .ref (aC 0)), (2, .ref (aM 0)), (3, .int x3)] → W p l e room_1 s m #[Value.ref b] below meth c H locs cells slots (lw_Z below #[Value.ref b] s) (F0 m 1076 ls [])) : W p l e room_1 s m #[Value.ref b] below meth c H locs cells slots (lw_Z below #[Value.ref b] s) (F0 m 204 ls []) := by
  obtain ⟨hx, hb, hr, hml, hown, hts, hX, hbl, hlocks, hgv⟩ := C0
  have hbA : ¬ (zl_A s) b := Nat.not_le.mpr hbl
  have hS := hB.1.2.2.2
  have hiL : i ≤ 511 := by omega
  have hi1 : vp_in (x3 + (1 : Int32)) L := by rw [ex3, show nI (4 * i) + (1 : Int32) = nI (4 * i + 1) from nI_add _ _]; exact vp_in_nI (by omega) (by omega)
  have hi2 : vp_in (x3 + (2 : Int32)) L := by rw [ex3, show nI (4 * i) + (2 : Int32) = nI (4 * i + 2) from nI_add _ _]; exact vp_in_nI (by omega) (by omega)
  have hi3 : vp_in (x3 + (3 : Int32)) L := by rw [ex3, show nI (4 * i) + (3 : Int32) = nI (4 * i + 3) from nI_add _ _]; exact vp_in_nI (by omega) (by omega)
  have hO := hob IC LC IM LM  hR
  refine lv_aload_n hx hb dL_law_204 rfl (lv_at hl 1 rfl) ?_
  refine zl_Ci hB (zz_runV (As := []) (rest := []) hx hb hml hown zw hB.1 zM_L_23 (zc_X7_fault l D ca aC IC LC H.size hO) zdC_0 rfl rfl hl.1 rfl (Nat.le_of_ble_eq_true rfl) rfl rfl ⟨Nat.le_of_ble_eq_true rfl, Nat.le_of_ble_eq_true rfl⟩ dL_law_205 ⟨by show cells + 0 ≤ 600000; omega, by show slots + 0 ≤ 7302250; omega⟩) (fun r IC LC H locs hO hB => ?_)
  have hS := hB.1.2.2.2
  refine lv_aload_n hx hb dL_law_208 rfl (lv_at hl 2 rfl) ?_
  refine zl_Mi hB (zz_runV (As := []) (rest := [.int r]) hx hb hml hown zw hB.2.1 zM_L_26 (zc_X8_fault l D ca aM IM LM H.size hO) zdM_0 rfl rfl hl.1 rfl (Nat.le_of_ble_eq_true rfl) rfl rfl ⟨Nat.le_of_ble_eq_true rfl, Nat.le_of_ble_eq_true rfl⟩ dL_law_209 ⟨by show cells + 0 ≤ 600000; omega, by show slots + 0 ≤ 7302250; omega⟩) (fun r2 IM LM H locs hO hB => ?_)
  refine lv_icmp_eq (tgt := 1076) hx hb dL_law_212 (by decide) (fun cq => ?_) (fun cq => absurd hO.1 cq)
  exact ih cells slots aC IC LC aM IM LM H locs ls hO.2 hB (by omega) (by omega) hl
def zo_3 (Rv : zz_I → zz_L → zz_I → zz_L → Prop) : Prop := ∀ (IC : zz_I) (LC : zz_L) (IM : zz_I) (LM : zz_L), Rv IC LC IM LM → zp_X7_stone  (fun r IC2 LC2 => zp_X8_stone  (fun r2 IM2 LM2 => r = r2 ∧ Rv IC2 LC2 IM2 LM2) IM LM) IC LC
set_option maxHeartbeats 4000000 in
set_option maxRecDepth 100000 in
theorem zl_case_3 {p : Program} {l : Launch} {e : Env} {s : State} {m : MethodId} {below : List Frame} {meth : Method} {c : Code} {D : va_G} {ca : Nat → ClassId} {b L : Nat} {xs : Nat → Int32} (hL : L ≤ 2048) (C0 : lw_At p s m meth c b L xs) (zw : zz_W s) {Rv : zz_I → zz_L → zz_I → zz_L → Prop} (hob : zo_3 Rv) {i cells slots : Nat} {x3 : Int32} (hi4 : 4 * i + 4 ≤ L) (ex3 : x3 = nI (4 * i)) {aC aM : Nat → Nat} {IC IM : zz_I} {LC LM : zz_L} {H : Heap} {locs : List Loc} {ls : Array Slot} (hR : Rv IC LC IM LM) (hB : zl_B D ca s aC IC LC aM IM LM H locs) (hc : cells ≤ 200 + i) (hs : slots ≤ 40000 + 14016 * i) (hl : lv_has ls 4 [(0, .ref b), (1, .ref (aC 0)), (2, .ref (aM 0)), (3, .int x3)]) (ih : ∀ (cells slots : Nat) (aC : Nat → Nat) (IC : zz_I) (LC : zz_L) (aM : Nat → Nat) (IM : zz_I) (LM : zz_L) (H : Heap) (locs : List Loc) (ls : Array Slot), Rv IC LC IM LM → zl_B D ca s aC IC LC aM IM LM H locs → cells ≤ 201 + i → slots ≤ 54016 + 14016 * i → lv_has ls 4 [(0, .ref b), (1, .ref (aC 0)), (2, .ref (aM 0)), (3, .int x3)] → W p l e room_1 s m #[Value.ref b] below meth c H locs cells slots (lw_Z below #[Value.ref b] s) (F0 m 1076 ls [])) : W p l e room_1 s m #[Value.ref b] below meth c H locs cells slots (lw_Z below #[Value.ref b] s) (F0 m 217 ls []) := by
  obtain ⟨hx, hb, hr, hml, hown, hts, hX, hbl, hlocks, hgv⟩ := C0
  have hbA : ¬ (zl_A s) b := Nat.not_le.mpr hbl
  have hS := hB.1.2.2.2
  have hiL : i ≤ 511 := by omega
  have hi1 : vp_in (x3 + (1 : Int32)) L := by rw [ex3, show nI (4 * i) + (1 : Int32) = nI (4 * i + 1) from nI_add _ _]; exact vp_in_nI (by omega) (by omega)
  have hi2 : vp_in (x3 + (2 : Int32)) L := by rw [ex3, show nI (4 * i) + (2 : Int32) = nI (4 * i + 2) from nI_add _ _]; exact vp_in_nI (by omega) (by omega)
  have hi3 : vp_in (x3 + (3 : Int32)) L := by rw [ex3, show nI (4 * i) + (3 : Int32) = nI (4 * i + 3) from nI_add _ _]; exact vp_in_nI (by omega) (by omega)
  have hO := hob IC LC IM LM  hR
  refine lv_aload_n hx hb dL_law_217 rfl (lv_at hl 1 rfl) ?_
  refine zl_Ci hB (zz_runV (As := []) (rest := []) hx hb hml hown zw hB.1 zM_L_27 (zc_X7_stone l D ca aC IC LC H.size hO) zdC_0 rfl rfl hl.1 rfl (Nat.le_of_ble_eq_true rfl) rfl rfl ⟨Nat.le_of_ble_eq_true rfl, Nat.le_of_ble_eq_true rfl⟩ dL_law_218 ⟨by show cells + 0 ≤ 600000; omega, by show slots + 0 ≤ 7302250; omega⟩) (fun r IC LC H locs hO hB => ?_)
  have hS := hB.1.2.2.2
  refine lv_aload_n hx hb dL_law_221 rfl (lv_at hl 2 rfl) ?_
  refine zl_Mi hB (zz_runV (As := []) (rest := [.int r]) hx hb hml hown zw hB.2.1 zM_L_30 (zc_X8_stone l D ca aM IM LM H.size hO) zdM_0 rfl rfl hl.1 rfl (Nat.le_of_ble_eq_true rfl) rfl rfl ⟨Nat.le_of_ble_eq_true rfl, Nat.le_of_ble_eq_true rfl⟩ dL_law_222 ⟨by show cells + 0 ≤ 600000; omega, by show slots + 0 ≤ 7302250; omega⟩) (fun r2 IM LM H locs hO hB => ?_)
  refine lv_icmp_eq (tgt := 1076) hx hb dL_law_225 (by decide) (fun cq => ?_) (fun cq => absurd hO.1 cq)
  exact ih cells slots aC IC LC aM IM LM H locs ls hO.2 hB (by omega) (by omega) hl
def zo_4 (Rv : zz_I → zz_L → zz_I → zz_L → Prop) : Prop := ∀ (IC : zz_I) (LC : zz_L) (IM : zz_I) (LM : zz_L) (p0 : Int32) (p1 : Int32), Rv IC LC IM LM → zp_X7_word p0 p1 (fun r => zp_X8_word p0 p1 (fun r2 IM2 LM2 => r = r2 ∧ Rv IC LC IM2 LM2) IM LM) IC LC
set_option maxHeartbeats 4000000 in
set_option maxRecDepth 100000 in
theorem zl_case_4 {p : Program} {l : Launch} {e : Env} {s : State} {m : MethodId} {below : List Frame} {meth : Method} {c : Code} {D : va_G} {ca : Nat → ClassId} {b L : Nat} {xs : Nat → Int32} (hL : L ≤ 2048) (C0 : lw_At p s m meth c b L xs) (zw : zz_W s) {Rv : zz_I → zz_L → zz_I → zz_L → Prop} (hob : zo_4 Rv) {i cells slots : Nat} {x3 : Int32} (hi4 : 4 * i + 4 ≤ L) (ex3 : x3 = nI (4 * i)) {aC aM : Nat → Nat} {IC IM : zz_I} {LC LM : zz_L} {H : Heap} {locs : List Loc} {ls : Array Slot} (hR : Rv IC LC IM LM) (hB : zl_B D ca s aC IC LC aM IM LM H locs) (hc : cells ≤ 200 + i) (hs : slots ≤ 40000 + 14016 * i) (hl : lv_has ls 4 [(0, .ref b), (1, .ref (aC 0)), (2, .ref (aM 0)), (3, .int x3)]) (ih : ∀ (cells slots : Nat) (aC : Nat → Nat) (IC : zz_I) (LC : zz_L) (aM : Nat → Nat) (IM : zz_I) (LM : zz_L) (H : Heap) (locs : List Loc) (ls : Array Slot), Rv IC LC IM LM → zl_B D ca s aC IC LC aM IM LM H locs → cells ≤ 201 + i → slots ≤ 54016 + 14016 * i → lv_has ls 4 [(0, .ref b), (1, .ref (aC 0)), (2, .ref (aM 0)), (3, .int x3)] → W p l e room_1 s m #[Value.ref b] below meth c H locs cells slots (lw_Z below #[Value.ref b] s) (F0 m 1076 ls [])) : W p l e room_1 s m #[Value.ref b] below meth c H locs cells slots (lw_Z below #[Value.ref b] s) (F0 m 230 ls []) := by
  obtain ⟨hx, hb, hr, hml, hown, hts, hX, hbl, hlocks, hgv⟩ := C0
  have hbA : ¬ (zl_A s) b := Nat.not_le.mpr hbl
  have hS := hB.1.2.2.2
  have hiL : i ≤ 511 := by omega
  have hi1 : vp_in (x3 + (1 : Int32)) L := by rw [ex3, show nI (4 * i) + (1 : Int32) = nI (4 * i + 1) from nI_add _ _]; exact vp_in_nI (by omega) (by omega)
  have hi2 : vp_in (x3 + (2 : Int32)) L := by rw [ex3, show nI (4 * i) + (2 : Int32) = nI (4 * i + 2) from nI_add _ _]; exact vp_in_nI (by omega) (by omega)
  have hi3 : vp_in (x3 + (3 : Int32)) L := by rw [ex3, show nI (4 * i) + (3 : Int32) = nI (4 * i + 3) from nI_add _ _]; exact vp_in_nI (by omega) (by omega)
  have hO := hob IC LC IM LM (xs (x3 + (1 : Int32)).toNatClampNeg) (xs (x3 + (2 : Int32)).toNatClampNeg) hR
  refine lv_aload_n hx hb dL_law_230 rfl (lv_at hl 1 rfl) ?_
  refine lv_aload_n hx hb dL_law_231 rfl (lv_at hl 0 rfl) ?_
  refine lv_iload_n hx hb dL_law_232 rfl (lv_at hl 3 rfl) ?_
  refine lv_iconst (v := (1 : Int32)) hx hb dL_law_233 (by decide) ?_
  refine lv_iadd hx hb dL_law_234 ?_
  refine va_sld hx hb hX hbl hbA hS hi1 dL_law_235 ?_
  refine lv_aload_n hx hb dL_law_236 rfl (lv_at hl 0 rfl) ?_
  refine lv_iload_n hx hb dL_law_237 rfl (lv_at hl 3 rfl) ?_
  refine lv_iconst (v := (2 : Int32)) hx hb dL_law_238 (by decide) ?_
  refine lv_iadd hx hb dL_law_239 ?_
  refine va_sld hx hb hX hbl hbA hS hi2 dL_law_240 ?_
  refine zl_Cip hB (zz_runV (As := [.int (xs (x3 + (1 : Int32)).toNatClampNeg), .int (xs (x3 + (2 : Int32)).toNatClampNeg)]) (rest := []) hx hb hml hown zw hB.1 zM_L_31 (zc_X7_word l D ca aC IC LC H.size hO) zdC_0 rfl rfl hl.1 rfl (Nat.le_of_ble_eq_true rfl) rfl rfl ⟨Nat.le_of_ble_eq_true rfl, Nat.le_of_ble_eq_true rfl⟩ dL_law_241 ⟨by show cells + 0 ≤ 600000; omega, by show slots + 0 ≤ 7302250; omega⟩) (fun r H locs hO hB => ?_)
  have hS := hB.1.2.2.2
  refine lv_aload_n hx hb dL_law_244 rfl (lv_at hl 2 rfl) ?_
  refine lv_aload_n hx hb dL_law_245 rfl (lv_at hl 0 rfl) ?_
  refine lv_iload_n hx hb dL_law_246 rfl (lv_at hl 3 rfl) ?_
  refine lv_iconst (v := (1 : Int32)) hx hb dL_law_247 (by decide) ?_
  refine lv_iadd hx hb dL_law_248 ?_
  refine va_sld hx hb hX hbl hbA hS hi1 dL_law_249 ?_
  refine lv_aload_n hx hb dL_law_250 rfl (lv_at hl 0 rfl) ?_
  refine lv_iload_n hx hb dL_law_251 rfl (lv_at hl 3 rfl) ?_
  refine lv_iconst (v := (2 : Int32)) hx hb dL_law_252 (by decide) ?_
  refine lv_iadd hx hb dL_law_253 ?_
  refine va_sld hx hb hX hbl hbA hS hi2 dL_law_254 ?_
  refine zl_Mi hB (zz_runV (As := [.int (xs (x3 + (1 : Int32)).toNatClampNeg), .int (xs (x3 + (2 : Int32)).toNatClampNeg)]) (rest := [.int r]) hx hb hml hown zw hB.2.1 zM_L_35 (zc_X8_word l D ca aM IM LM H.size hO) zdM_0 rfl rfl hl.1 rfl (Nat.le_of_ble_eq_true rfl) rfl rfl ⟨Nat.le_of_ble_eq_true rfl, Nat.le_of_ble_eq_true rfl⟩ dL_law_255 ⟨by show cells + 0 ≤ 600000; omega, by show slots + 0 ≤ 7302250; omega⟩) (fun r2 IM LM H locs hO hB => ?_)
  refine lv_icmp_eq (tgt := 1076) hx hb dL_law_258 (by decide) (fun cq => ?_) (fun cq => absurd hO.1 cq)
  exact ih cells slots aC IC LC aM IM LM H locs ls hO.2 hB (by omega) (by omega) hl
def zo_5 (Rv : zz_I → zz_L → zz_I → zz_L → Prop) : Prop := ∀ (IC : zz_I) (LC : zz_L) (IM : zz_I) (LM : zz_L) (p0 : Int32), Rv IC LC IM LM → zp_X7_line p0 (fun r => zp_X8_line p0 (fun r2 IM2 LM2 => r = r2 ∧ Rv IC LC IM2 LM2) IM LM) IC LC
set_option maxHeartbeats 4000000 in
set_option maxRecDepth 100000 in
theorem zl_case_5 {p : Program} {l : Launch} {e : Env} {s : State} {m : MethodId} {below : List Frame} {meth : Method} {c : Code} {D : va_G} {ca : Nat → ClassId} {b L : Nat} {xs : Nat → Int32} (hL : L ≤ 2048) (C0 : lw_At p s m meth c b L xs) (zw : zz_W s) {Rv : zz_I → zz_L → zz_I → zz_L → Prop} (hob : zo_5 Rv) {i cells slots : Nat} {x3 : Int32} (hi4 : 4 * i + 4 ≤ L) (ex3 : x3 = nI (4 * i)) {aC aM : Nat → Nat} {IC IM : zz_I} {LC LM : zz_L} {H : Heap} {locs : List Loc} {ls : Array Slot} (hR : Rv IC LC IM LM) (hB : zl_B D ca s aC IC LC aM IM LM H locs) (hc : cells ≤ 200 + i) (hs : slots ≤ 40000 + 14016 * i) (hl : lv_has ls 4 [(0, .ref b), (1, .ref (aC 0)), (2, .ref (aM 0)), (3, .int x3)]) (ih : ∀ (cells slots : Nat) (aC : Nat → Nat) (IC : zz_I) (LC : zz_L) (aM : Nat → Nat) (IM : zz_I) (LM : zz_L) (H : Heap) (locs : List Loc) (ls : Array Slot), Rv IC LC IM LM → zl_B D ca s aC IC LC aM IM LM H locs → cells ≤ 201 + i → slots ≤ 54016 + 14016 * i → lv_has ls 4 [(0, .ref b), (1, .ref (aC 0)), (2, .ref (aM 0)), (3, .int x3)] → W p l e room_1 s m #[Value.ref b] below meth c H locs cells slots (lw_Z below #[Value.ref b] s) (F0 m 1076 ls [])) : W p l e room_1 s m #[Value.ref b] below meth c H locs cells slots (lw_Z below #[Value.ref b] s) (F0 m 263 ls []) := by
  obtain ⟨hx, hb, hr, hml, hown, hts, hX, hbl, hlocks, hgv⟩ := C0
  have hbA : ¬ (zl_A s) b := Nat.not_le.mpr hbl
  have hS := hB.1.2.2.2
  have hiL : i ≤ 511 := by omega
  have hi1 : vp_in (x3 + (1 : Int32)) L := by rw [ex3, show nI (4 * i) + (1 : Int32) = nI (4 * i + 1) from nI_add _ _]; exact vp_in_nI (by omega) (by omega)
  have hi2 : vp_in (x3 + (2 : Int32)) L := by rw [ex3, show nI (4 * i) + (2 : Int32) = nI (4 * i + 2) from nI_add _ _]; exact vp_in_nI (by omega) (by omega)
  have hi3 : vp_in (x3 + (3 : Int32)) L := by rw [ex3, show nI (4 * i) + (3 : Int32) = nI (4 * i + 3) from nI_add _ _]; exact vp_in_nI (by omega) (by omega)
  have hO := hob IC LC IM LM (xs (x3 + (1 : Int32)).toNatClampNeg) hR
  refine lv_aload_n hx hb dL_law_263 rfl (lv_at hl 1 rfl) ?_
  refine lv_aload_n hx hb dL_law_264 rfl (lv_at hl 0 rfl) ?_
  refine lv_iload_n hx hb dL_law_265 rfl (lv_at hl 3 rfl) ?_
  refine lv_iconst (v := (1 : Int32)) hx hb dL_law_266 (by decide) ?_
  refine lv_iadd hx hb dL_law_267 ?_
  refine va_sld hx hb hX hbl hbA hS hi1 dL_law_268 ?_
  refine zl_Cip hB (zz_runV (As := [.int (xs (x3 + (1 : Int32)).toNatClampNeg)]) (rest := []) hx hb hml hown zw hB.1 zM_L_36 (zc_X7_line l D ca aC IC LC H.size hO) zdC_0 rfl rfl hl.1 rfl (Nat.le_of_ble_eq_true rfl) rfl rfl ⟨Nat.le_of_ble_eq_true rfl, Nat.le_of_ble_eq_true rfl⟩ dL_law_269 ⟨by show cells + 0 ≤ 600000; omega, by show slots + 0 ≤ 7302250; omega⟩) (fun r H locs hO hB => ?_)
  have hS := hB.1.2.2.2
  refine lv_aload_n hx hb dL_law_272 rfl (lv_at hl 2 rfl) ?_
  refine lv_aload_n hx hb dL_law_273 rfl (lv_at hl 0 rfl) ?_
  refine lv_iload_n hx hb dL_law_274 rfl (lv_at hl 3 rfl) ?_
  refine lv_iconst (v := (1 : Int32)) hx hb dL_law_275 (by decide) ?_
  refine lv_iadd hx hb dL_law_276 ?_
  refine va_sld hx hb hX hbl hbA hS hi1 dL_law_277 ?_
  refine zl_Mi hB (zz_runV (As := [.int (xs (x3 + (1 : Int32)).toNatClampNeg)]) (rest := [.int r]) hx hb hml hown zw hB.2.1 zM_L_39 (zc_X8_line l D ca aM IM LM H.size hO) zdM_0 rfl rfl hl.1 rfl (Nat.le_of_ble_eq_true rfl) rfl rfl ⟨Nat.le_of_ble_eq_true rfl, Nat.le_of_ble_eq_true rfl⟩ dL_law_278 ⟨by show cells + 0 ≤ 600000; omega, by show slots + 0 ≤ 7302250; omega⟩) (fun r2 IM LM H locs hO hB => ?_)
  refine lv_icmp_eq (tgt := 1076) hx hb dL_law_281 (by decide) (fun cq => ?_) (fun cq => absurd hO.1 cq)
  exact ih cells slots aC IC LC aM IM LM H locs ls hO.2 hB (by omega) (by omega) hl
def zo_6 (Rv : zz_I → zz_L → zz_I → zz_L → Prop) : Prop := ∀ (IC : zz_I) (LC : zz_L) (IM : zz_I) (LM : zz_L) (p0 : Int32) (p1 : Int32), Rv IC LC IM LM → zp_X7_rule p0 p1 (fun r => zp_X8_rule p0 p1 (fun r2 IM2 LM2 => r = r2 ∧ Rv IC LC IM2 LM2) IM LM) IC LC
set_option maxHeartbeats 4000000 in
set_option maxRecDepth 100000 in
theorem zl_case_6 {p : Program} {l : Launch} {e : Env} {s : State} {m : MethodId} {below : List Frame} {meth : Method} {c : Code} {D : va_G} {ca : Nat → ClassId} {b L : Nat} {xs : Nat → Int32} (hL : L ≤ 2048) (C0 : lw_At p s m meth c b L xs) (zw : zz_W s) {Rv : zz_I → zz_L → zz_I → zz_L → Prop} (hob : zo_6 Rv) {i cells slots : Nat} {x3 : Int32} (hi4 : 4 * i + 4 ≤ L) (ex3 : x3 = nI (4 * i)) {aC aM : Nat → Nat} {IC IM : zz_I} {LC LM : zz_L} {H : Heap} {locs : List Loc} {ls : Array Slot} (hR : Rv IC LC IM LM) (hB : zl_B D ca s aC IC LC aM IM LM H locs) (hc : cells ≤ 200 + i) (hs : slots ≤ 40000 + 14016 * i) (hl : lv_has ls 4 [(0, .ref b), (1, .ref (aC 0)), (2, .ref (aM 0)), (3, .int x3)]) (ih : ∀ (cells slots : Nat) (aC : Nat → Nat) (IC : zz_I) (LC : zz_L) (aM : Nat → Nat) (IM : zz_I) (LM : zz_L) (H : Heap) (locs : List Loc) (ls : Array Slot), Rv IC LC IM LM → zl_B D ca s aC IC LC aM IM LM H locs → cells ≤ 201 + i → slots ≤ 54016 + 14016 * i → lv_has ls 4 [(0, .ref b), (1, .ref (aC 0)), (2, .ref (aM 0)), (3, .int x3)] → W p l e room_1 s m #[Value.ref b] below meth c H locs cells slots (lw_Z below #[Value.ref b] s) (F0 m 1076 ls [])) : W p l e room_1 s m #[Value.ref b] below meth c H locs cells slots (lw_Z below #[Value.ref b] s) (F0 m 286 ls []) := by
  obtain ⟨hx, hb, hr, hml, hown, hts, hX, hbl, hlocks, hgv⟩ := C0
  have hbA : ¬ (zl_A s) b := Nat.not_le.mpr hbl
  have hS := hB.1.2.2.2
  have hiL : i ≤ 511 := by omega
  have hi1 : vp_in (x3 + (1 : Int32)) L := by rw [ex3, show nI (4 * i) + (1 : Int32) = nI (4 * i + 1) from nI_add _ _]; exact vp_in_nI (by omega) (by omega)
  have hi2 : vp_in (x3 + (2 : Int32)) L := by rw [ex3, show nI (4 * i) + (2 : Int32) = nI (4 * i + 2) from nI_add _ _]; exact vp_in_nI (by omega) (by omega)
  have hi3 : vp_in (x3 + (3 : Int32)) L := by rw [ex3, show nI (4 * i) + (3 : Int32) = nI (4 * i + 3) from nI_add _ _]; exact vp_in_nI (by omega) (by omega)
  have hO := hob IC LC IM LM (xs (x3 + (1 : Int32)).toNatClampNeg) (xs (x3 + (2 : Int32)).toNatClampNeg) hR
  refine lv_aload_n hx hb dL_law_286 rfl (lv_at hl 1 rfl) ?_
  refine lv_aload_n hx hb dL_law_287 rfl (lv_at hl 0 rfl) ?_
  refine lv_iload_n hx hb dL_law_288 rfl (lv_at hl 3 rfl) ?_
  refine lv_iconst (v := (1 : Int32)) hx hb dL_law_289 (by decide) ?_
  refine lv_iadd hx hb dL_law_290 ?_
  refine va_sld hx hb hX hbl hbA hS hi1 dL_law_291 ?_
  refine lv_aload_n hx hb dL_law_292 rfl (lv_at hl 0 rfl) ?_
  refine lv_iload_n hx hb dL_law_293 rfl (lv_at hl 3 rfl) ?_
  refine lv_iconst (v := (2 : Int32)) hx hb dL_law_294 (by decide) ?_
  refine lv_iadd hx hb dL_law_295 ?_
  refine va_sld hx hb hX hbl hbA hS hi2 dL_law_296 ?_
  refine zl_Cip hB (zz_runV (As := [.int (xs (x3 + (1 : Int32)).toNatClampNeg), .int (xs (x3 + (2 : Int32)).toNatClampNeg)]) (rest := []) hx hb hml hown zw hB.1 zM_L_40 (zc_X7_rule l D ca aC IC LC H.size hO) zdC_0 rfl rfl hl.1 rfl (Nat.le_of_ble_eq_true rfl) rfl rfl ⟨Nat.le_of_ble_eq_true rfl, Nat.le_of_ble_eq_true rfl⟩ dL_law_297 ⟨by show cells + 0 ≤ 600000; omega, by show slots + 0 ≤ 7302250; omega⟩) (fun r H locs hO hB => ?_)
  have hS := hB.1.2.2.2
  refine lv_aload_n hx hb dL_law_300 rfl (lv_at hl 2 rfl) ?_
  refine lv_aload_n hx hb dL_law_301 rfl (lv_at hl 0 rfl) ?_
  refine lv_iload_n hx hb dL_law_302 rfl (lv_at hl 3 rfl) ?_
  refine lv_iconst (v := (1 : Int32)) hx hb dL_law_303 (by decide) ?_
  refine lv_iadd hx hb dL_law_304 ?_
  refine va_sld hx hb hX hbl hbA hS hi1 dL_law_305 ?_
  refine lv_aload_n hx hb dL_law_306 rfl (lv_at hl 0 rfl) ?_
  refine lv_iload_n hx hb dL_law_307 rfl (lv_at hl 3 rfl) ?_
  refine lv_iconst (v := (2 : Int32)) hx hb dL_law_308 (by decide) ?_
  refine lv_iadd hx hb dL_law_309 ?_
  refine va_sld hx hb hX hbl hbA hS hi2 dL_law_310 ?_
  refine zl_Mi hB (zz_runV (As := [.int (xs (x3 + (1 : Int32)).toNatClampNeg), .int (xs (x3 + (2 : Int32)).toNatClampNeg)]) (rest := [.int r]) hx hb hml hown zw hB.2.1 zM_L_43 (zc_X8_rule l D ca aM IM LM H.size hO) zdM_0 rfl rfl hl.1 rfl (Nat.le_of_ble_eq_true rfl) rfl rfl ⟨Nat.le_of_ble_eq_true rfl, Nat.le_of_ble_eq_true rfl⟩ dL_law_311 ⟨by show cells + 0 ≤ 600000; omega, by show slots + 0 ≤ 7302250; omega⟩) (fun r2 IM LM H locs hO hB => ?_)
  refine lv_icmp_eq (tgt := 1076) hx hb dL_law_314 (by decide) (fun cq => ?_) (fun cq => absurd hO.1 cq)
  exact ih cells slots aC IC LC aM IM LM H locs ls hO.2 hB (by omega) (by omega) hl
def zo_7 (Rv : zz_I → zz_L → zz_I → zz_L → Prop) : Prop := ∀ (IC : zz_I) (LC : zz_L) (IM : zz_I) (LM : zz_L) (p0 : Int32), Rv IC LC IM LM → zp_X7_wear p0 (fun r IC2 LC2 => zp_X8_wear p0 (fun r2 IM2 LM2 => r = r2 ∧ Rv IC2 LC2 IM2 LM2) IM LM) IC LC
set_option maxHeartbeats 4000000 in
set_option maxRecDepth 100000 in
theorem zl_case_7 {p : Program} {l : Launch} {e : Env} {s : State} {m : MethodId} {below : List Frame} {meth : Method} {c : Code} {D : va_G} {ca : Nat → ClassId} {b L : Nat} {xs : Nat → Int32} (hL : L ≤ 2048) (C0 : lw_At p s m meth c b L xs) (zw : zz_W s) {Rv : zz_I → zz_L → zz_I → zz_L → Prop} (hob : zo_7 Rv) {i cells slots : Nat} {x3 : Int32} (hi4 : 4 * i + 4 ≤ L) (ex3 : x3 = nI (4 * i)) {aC aM : Nat → Nat} {IC IM : zz_I} {LC LM : zz_L} {H : Heap} {locs : List Loc} {ls : Array Slot} (hR : Rv IC LC IM LM) (hB : zl_B D ca s aC IC LC aM IM LM H locs) (hc : cells ≤ 200 + i) (hs : slots ≤ 40000 + 14016 * i) (hl : lv_has ls 4 [(0, .ref b), (1, .ref (aC 0)), (2, .ref (aM 0)), (3, .int x3)]) (ih : ∀ (cells slots : Nat) (aC : Nat → Nat) (IC : zz_I) (LC : zz_L) (aM : Nat → Nat) (IM : zz_I) (LM : zz_L) (H : Heap) (locs : List Loc) (ls : Array Slot), Rv IC LC IM LM → zl_B D ca s aC IC LC aM IM LM H locs → cells ≤ 201 + i → slots ≤ 54016 + 14016 * i → lv_has ls 4 [(0, .ref b), (1, .ref (aC 0)), (2, .ref (aM 0)), (3, .int x3)] → W p l e room_1 s m #[Value.ref b] below meth c H locs cells slots (lw_Z below #[Value.ref b] s) (F0 m 1076 ls [])) : W p l e room_1 s m #[Value.ref b] below meth c H locs cells slots (lw_Z below #[Value.ref b] s) (F0 m 319 ls []) := by
  obtain ⟨hx, hb, hr, hml, hown, hts, hX, hbl, hlocks, hgv⟩ := C0
  have hbA : ¬ (zl_A s) b := Nat.not_le.mpr hbl
  have hS := hB.1.2.2.2
  have hiL : i ≤ 511 := by omega
  have hi1 : vp_in (x3 + (1 : Int32)) L := by rw [ex3, show nI (4 * i) + (1 : Int32) = nI (4 * i + 1) from nI_add _ _]; exact vp_in_nI (by omega) (by omega)
  have hi2 : vp_in (x3 + (2 : Int32)) L := by rw [ex3, show nI (4 * i) + (2 : Int32) = nI (4 * i + 2) from nI_add _ _]; exact vp_in_nI (by omega) (by omega)
  have hi3 : vp_in (x3 + (3 : Int32)) L := by rw [ex3, show nI (4 * i) + (3 : Int32) = nI (4 * i + 3) from nI_add _ _]; exact vp_in_nI (by omega) (by omega)
  have hO := hob IC LC IM LM (xs (x3 + (1 : Int32)).toNatClampNeg) hR
  refine lv_aload_n hx hb dL_law_319 rfl (lv_at hl 1 rfl) ?_
  refine lv_aload_n hx hb dL_law_320 rfl (lv_at hl 0 rfl) ?_
  refine lv_iload_n hx hb dL_law_321 rfl (lv_at hl 3 rfl) ?_
  refine lv_iconst (v := (1 : Int32)) hx hb dL_law_322 (by decide) ?_
  refine lv_iadd hx hb dL_law_323 ?_
  refine va_sld hx hb hX hbl hbA hS hi1 dL_law_324 ?_
  refine zl_Ci hB (zz_runV (As := [.int (xs (x3 + (1 : Int32)).toNatClampNeg)]) (rest := []) hx hb hml hown zw hB.1 zM_L_44 (zc_X7_wear l D ca aC IC LC H.size hO) zdC_0 rfl rfl hl.1 rfl (Nat.le_of_ble_eq_true rfl) rfl rfl ⟨Nat.le_of_ble_eq_true rfl, Nat.le_of_ble_eq_true rfl⟩ dL_law_325 ⟨by show cells + 0 ≤ 600000; omega, by show slots + 0 ≤ 7302250; omega⟩) (fun r IC LC H locs hO hB => ?_)
  have hS := hB.1.2.2.2
  refine lv_aload_n hx hb dL_law_328 rfl (lv_at hl 2 rfl) ?_
  refine lv_aload_n hx hb dL_law_329 rfl (lv_at hl 0 rfl) ?_
  refine lv_iload_n hx hb dL_law_330 rfl (lv_at hl 3 rfl) ?_
  refine lv_iconst (v := (1 : Int32)) hx hb dL_law_331 (by decide) ?_
  refine lv_iadd hx hb dL_law_332 ?_
  refine va_sld hx hb hX hbl hbA hS hi1 dL_law_333 ?_
  refine zl_Mi hB (zz_runV (As := [.int (xs (x3 + (1 : Int32)).toNatClampNeg)]) (rest := [.int r]) hx hb hml hown zw hB.2.1 zM_L_47 (zc_X8_wear l D ca aM IM LM H.size hO) zdM_0 rfl rfl hl.1 rfl (Nat.le_of_ble_eq_true rfl) rfl rfl ⟨Nat.le_of_ble_eq_true rfl, Nat.le_of_ble_eq_true rfl⟩ dL_law_334 ⟨by show cells + 0 ≤ 600000; omega, by show slots + 0 ≤ 7302250; omega⟩) (fun r2 IM LM H locs hO hB => ?_)
  refine lv_icmp_eq (tgt := 1076) hx hb dL_law_337 (by decide) (fun cq => ?_) (fun cq => absurd hO.1 cq)
  exact ih cells slots aC IC LC aM IM LM H locs ls hO.2 hB (by omega) (by omega) hl
def zo_8 (Rv : zz_I → zz_L → zz_I → zz_L → Prop) : Prop := ∀ (IC : zz_I) (LC : zz_L) (IM : zz_I) (LM : zz_L) (p0 : Int32) (p1 : Int32), Rv IC LC IM LM → zp_X7_carve p0 p1 (fun r IC2 LC2 => zp_X8_carve p0 p1 (fun r2 IM2 LM2 => r = r2 ∧ Rv IC2 LC2 IM2 LM2) IM LM) IC LC
set_option maxHeartbeats 4000000 in
set_option maxRecDepth 100000 in
theorem zl_case_8 {p : Program} {l : Launch} {e : Env} {s : State} {m : MethodId} {below : List Frame} {meth : Method} {c : Code} {D : va_G} {ca : Nat → ClassId} {b L : Nat} {xs : Nat → Int32} (hL : L ≤ 2048) (C0 : lw_At p s m meth c b L xs) (zw : zz_W s) {Rv : zz_I → zz_L → zz_I → zz_L → Prop} (hob : zo_8 Rv) {i cells slots : Nat} {x3 : Int32} (hi4 : 4 * i + 4 ≤ L) (ex3 : x3 = nI (4 * i)) {aC aM : Nat → Nat} {IC IM : zz_I} {LC LM : zz_L} {H : Heap} {locs : List Loc} {ls : Array Slot} (hR : Rv IC LC IM LM) (hB : zl_B D ca s aC IC LC aM IM LM H locs) (hc : cells ≤ 200 + i) (hs : slots ≤ 40000 + 14016 * i) (hl : lv_has ls 4 [(0, .ref b), (1, .ref (aC 0)), (2, .ref (aM 0)), (3, .int x3)]) (ih : ∀ (cells slots : Nat) (aC : Nat → Nat) (IC : zz_I) (LC : zz_L) (aM : Nat → Nat) (IM : zz_I) (LM : zz_L) (H : Heap) (locs : List Loc) (ls : Array Slot), Rv IC LC IM LM → zl_B D ca s aC IC LC aM IM LM H locs → cells ≤ 201 + i → slots ≤ 54016 + 14016 * i → lv_has ls 4 [(0, .ref b), (1, .ref (aC 0)), (2, .ref (aM 0)), (3, .int x3)] → W p l e room_1 s m #[Value.ref b] below meth c H locs cells slots (lw_Z below #[Value.ref b] s) (F0 m 1076 ls [])) : W p l e room_1 s m #[Value.ref b] below meth c H locs cells slots (lw_Z below #[Value.ref b] s) (F0 m 342 ls []) := by
  obtain ⟨hx, hb, hr, hml, hown, hts, hX, hbl, hlocks, hgv⟩ := C0
  have hbA : ¬ (zl_A s) b := Nat.not_le.mpr hbl
  have hS := hB.1.2.2.2
  have hiL : i ≤ 511 := by omega
  have hi1 : vp_in (x3 + (1 : Int32)) L := by rw [ex3, show nI (4 * i) + (1 : Int32) = nI (4 * i + 1) from nI_add _ _]; exact vp_in_nI (by omega) (by omega)
  have hi2 : vp_in (x3 + (2 : Int32)) L := by rw [ex3, show nI (4 * i) + (2 : Int32) = nI (4 * i + 2) from nI_add _ _]; exact vp_in_nI (by omega) (by omega)
  have hi3 : vp_in (x3 + (3 : Int32)) L := by rw [ex3, show nI (4 * i) + (3 : Int32) = nI (4 * i + 3) from nI_add _ _]; exact vp_in_nI (by omega) (by omega)
  have hO := hob IC LC IM LM (xs (x3 + (1 : Int32)).toNatClampNeg) (xs (x3 + (2 : Int32)).toNatClampNeg) hR
  refine lv_aload_n hx hb dL_law_342 rfl (lv_at hl 1 rfl) ?_
  refine lv_aload_n hx hb dL_law_343 rfl (lv_at hl 0 rfl) ?_
  refine lv_iload_n hx hb dL_law_344 rfl (lv_at hl 3 rfl) ?_
  refine lv_iconst (v := (1 : Int32)) hx hb dL_law_345 (by decide) ?_
  refine lv_iadd hx hb dL_law_346 ?_
  refine va_sld hx hb hX hbl hbA hS hi1 dL_law_347 ?_
  refine lv_aload_n hx hb dL_law_348 rfl (lv_at hl 0 rfl) ?_
  refine lv_iload_n hx hb dL_law_349 rfl (lv_at hl 3 rfl) ?_
  refine lv_iconst (v := (2 : Int32)) hx hb dL_law_350 (by decide) ?_
  refine lv_iadd hx hb dL_law_351 ?_
  refine va_sld hx hb hX hbl hbA hS hi2 dL_law_352 ?_
  refine zl_Ci hB (zz_runV (As := [.int (xs (x3 + (1 : Int32)).toNatClampNeg), .int (xs (x3 + (2 : Int32)).toNatClampNeg)]) (rest := []) hx hb hml hown zw hB.1 zM_L_48 (zc_X7_carve l D ca aC IC LC H.size hO) zdC_0 rfl rfl hl.1 rfl (Nat.le_of_ble_eq_true rfl) rfl rfl ⟨Nat.le_of_ble_eq_true rfl, Nat.le_of_ble_eq_true rfl⟩ dL_law_353 ⟨by show cells + 0 ≤ 600000; omega, by show slots + 0 ≤ 7302250; omega⟩) (fun r IC LC H locs hO hB => ?_)
  have hS := hB.1.2.2.2
  refine lv_aload_n hx hb dL_law_356 rfl (lv_at hl 2 rfl) ?_
  refine lv_aload_n hx hb dL_law_357 rfl (lv_at hl 0 rfl) ?_
  refine lv_iload_n hx hb dL_law_358 rfl (lv_at hl 3 rfl) ?_
  refine lv_iconst (v := (1 : Int32)) hx hb dL_law_359 (by decide) ?_
  refine lv_iadd hx hb dL_law_360 ?_
  refine va_sld hx hb hX hbl hbA hS hi1 dL_law_361 ?_
  refine lv_aload_n hx hb dL_law_362 rfl (lv_at hl 0 rfl) ?_
  refine lv_iload_n hx hb dL_law_363 rfl (lv_at hl 3 rfl) ?_
  refine lv_iconst (v := (2 : Int32)) hx hb dL_law_364 (by decide) ?_
  refine lv_iadd hx hb dL_law_365 ?_
  refine va_sld hx hb hX hbl hbA hS hi2 dL_law_366 ?_
  refine zl_Mi hB (zz_runV (As := [.int (xs (x3 + (1 : Int32)).toNatClampNeg), .int (xs (x3 + (2 : Int32)).toNatClampNeg)]) (rest := [.int r]) hx hb hml hown zw hB.2.1 zM_L_51 (zc_X8_carve l D ca aM IM LM H.size hO) zdM_0 rfl rfl hl.1 rfl (Nat.le_of_ble_eq_true rfl) rfl rfl ⟨Nat.le_of_ble_eq_true rfl, Nat.le_of_ble_eq_true rfl⟩ dL_law_367 ⟨by show cells + 0 ≤ 600000; omega, by show slots + 0 ≤ 7302250; omega⟩) (fun r2 IM LM H locs hO hB => ?_)
  refine lv_icmp_eq (tgt := 1076) hx hb dL_law_370 (by decide) (fun cq => ?_) (fun cq => absurd hO.1 cq)
  exact ih cells slots aC IC LC aM IM LM H locs ls hO.2 hB (by omega) (by omega) hl
def zo_9 (Rv : zz_I → zz_L → zz_I → zz_L → Prop) : Prop := ∀ (IC : zz_I) (LC : zz_L) (IM : zz_I) (LM : zz_L) (p0 : Int32), Rv IC LC IM LM → zp_X7_bar p0 (fun r IC2 LC2 => zp_X8_bar p0 (fun r2 IM2 LM2 => r = r2 ∧ Rv IC2 LC2 IM2 LM2) IM LM) IC LC
set_option maxHeartbeats 4000000 in
set_option maxRecDepth 100000 in
theorem zl_case_9 {p : Program} {l : Launch} {e : Env} {s : State} {m : MethodId} {below : List Frame} {meth : Method} {c : Code} {D : va_G} {ca : Nat → ClassId} {b L : Nat} {xs : Nat → Int32} (hL : L ≤ 2048) (C0 : lw_At p s m meth c b L xs) (zw : zz_W s) {Rv : zz_I → zz_L → zz_I → zz_L → Prop} (hob : zo_9 Rv) {i cells slots : Nat} {x3 : Int32} (hi4 : 4 * i + 4 ≤ L) (ex3 : x3 = nI (4 * i)) {aC aM : Nat → Nat} {IC IM : zz_I} {LC LM : zz_L} {H : Heap} {locs : List Loc} {ls : Array Slot} (hR : Rv IC LC IM LM) (hB : zl_B D ca s aC IC LC aM IM LM H locs) (hc : cells ≤ 200 + i) (hs : slots ≤ 40000 + 14016 * i) (hl : lv_has ls 4 [(0, .ref b), (1, .ref (aC 0)), (2, .ref (aM 0)), (3, .int x3)]) (ih : ∀ (cells slots : Nat) (aC : Nat → Nat) (IC : zz_I) (LC : zz_L) (aM : Nat → Nat) (IM : zz_I) (LM : zz_L) (H : Heap) (locs : List Loc) (ls : Array Slot), Rv IC LC IM LM → zl_B D ca s aC IC LC aM IM LM H locs → cells ≤ 201 + i → slots ≤ 54016 + 14016 * i → lv_has ls 4 [(0, .ref b), (1, .ref (aC 0)), (2, .ref (aM 0)), (3, .int x3)] → W p l e room_1 s m #[Value.ref b] below meth c H locs cells slots (lw_Z below #[Value.ref b] s) (F0 m 1076 ls [])) : W p l e room_1 s m #[Value.ref b] below meth c H locs cells slots (lw_Z below #[Value.ref b] s) (F0 m 375 ls []) := by
  obtain ⟨hx, hb, hr, hml, hown, hts, hX, hbl, hlocks, hgv⟩ := C0
  have hbA : ¬ (zl_A s) b := Nat.not_le.mpr hbl
  have hS := hB.1.2.2.2
  have hiL : i ≤ 511 := by omega
  have hi1 : vp_in (x3 + (1 : Int32)) L := by rw [ex3, show nI (4 * i) + (1 : Int32) = nI (4 * i + 1) from nI_add _ _]; exact vp_in_nI (by omega) (by omega)
  have hi2 : vp_in (x3 + (2 : Int32)) L := by rw [ex3, show nI (4 * i) + (2 : Int32) = nI (4 * i + 2) from nI_add _ _]; exact vp_in_nI (by omega) (by omega)
  have hi3 : vp_in (x3 + (3 : Int32)) L := by rw [ex3, show nI (4 * i) + (3 : Int32) = nI (4 * i + 3) from nI_add _ _]; exact vp_in_nI (by omega) (by omega)
  have hO := hob IC LC IM LM (xs (x3 + (1 : Int32)).toNatClampNeg) hR
  refine lv_aload_n hx hb dL_law_375 rfl (lv_at hl 1 rfl) ?_
  refine lv_aload_n hx hb dL_law_376 rfl (lv_at hl 0 rfl) ?_
  refine lv_iload_n hx hb dL_law_377 rfl (lv_at hl 3 rfl) ?_
  refine lv_iconst (v := (1 : Int32)) hx hb dL_law_378 (by decide) ?_
  refine lv_iadd hx hb dL_law_379 ?_
  refine va_sld hx hb hX hbl hbA hS hi1 dL_law_380 ?_
  refine zl_Ci hB (zz_runV (As := [.int (xs (x3 + (1 : Int32)).toNatClampNeg)]) (rest := []) hx hb hml hown zw hB.1 zM_L_52 (zc_X7_bar l D ca aC IC LC H.size hO) zdC_0 rfl rfl hl.1 rfl (Nat.le_of_ble_eq_true rfl) rfl rfl ⟨Nat.le_of_ble_eq_true rfl, Nat.le_of_ble_eq_true rfl⟩ dL_law_381 ⟨by show cells + 0 ≤ 600000; omega, by show slots + 0 ≤ 7302250; omega⟩) (fun r IC LC H locs hO hB => ?_)
  have hS := hB.1.2.2.2
  refine lv_aload_n hx hb dL_law_384 rfl (lv_at hl 2 rfl) ?_
  refine lv_aload_n hx hb dL_law_385 rfl (lv_at hl 0 rfl) ?_
  refine lv_iload_n hx hb dL_law_386 rfl (lv_at hl 3 rfl) ?_
  refine lv_iconst (v := (1 : Int32)) hx hb dL_law_387 (by decide) ?_
  refine lv_iadd hx hb dL_law_388 ?_
  refine va_sld hx hb hX hbl hbA hS hi1 dL_law_389 ?_
  refine zl_Mi hB (zz_runV (As := [.int (xs (x3 + (1 : Int32)).toNatClampNeg)]) (rest := [.int r]) hx hb hml hown zw hB.2.1 zM_L_55 (zc_X8_bar l D ca aM IM LM H.size hO) zdM_0 rfl rfl hl.1 rfl (Nat.le_of_ble_eq_true rfl) rfl rfl ⟨Nat.le_of_ble_eq_true rfl, Nat.le_of_ble_eq_true rfl⟩ dL_law_390 ⟨by show cells + 0 ≤ 600000; omega, by show slots + 0 ≤ 7302250; omega⟩) (fun r2 IM LM H locs hO hB => ?_)
  refine lv_icmp_eq (tgt := 1076) hx hb dL_law_393 (by decide) (fun cq => ?_) (fun cq => absurd hO.1 cq)
  exact ih cells slots aC IC LC aM IM LM H locs ls hO.2 hB (by omega) (by omega) hl
def zo_10 (Rv : zz_I → zz_L → zz_I → zz_L → Prop) : Prop := ∀ (IC : zz_I) (LC : zz_L) (IM : zz_I) (LM : zz_L) (p0 : Int32) (p1 : Int32) (p2 : Int32), Rv IC LC IM LM → zp_X7_setRule p0 p1 p2 (fun r IC2 LC2 => zp_X8_setRule p0 p1 p2 (fun r2 IM2 LM2 => r = r2 ∧ Rv IC2 LC2 IM2 LM2) IM LM) IC LC
set_option maxHeartbeats 4000000 in
set_option maxRecDepth 100000 in
theorem zl_case_10 {p : Program} {l : Launch} {e : Env} {s : State} {m : MethodId} {below : List Frame} {meth : Method} {c : Code} {D : va_G} {ca : Nat → ClassId} {b L : Nat} {xs : Nat → Int32} (hL : L ≤ 2048) (C0 : lw_At p s m meth c b L xs) (zw : zz_W s) {Rv : zz_I → zz_L → zz_I → zz_L → Prop} (hob : zo_10 Rv) {i cells slots : Nat} {x3 : Int32} (hi4 : 4 * i + 4 ≤ L) (ex3 : x3 = nI (4 * i)) {aC aM : Nat → Nat} {IC IM : zz_I} {LC LM : zz_L} {H : Heap} {locs : List Loc} {ls : Array Slot} (hR : Rv IC LC IM LM) (hB : zl_B D ca s aC IC LC aM IM LM H locs) (hc : cells ≤ 200 + i) (hs : slots ≤ 40000 + 14016 * i) (hl : lv_has ls 4 [(0, .ref b), (1, .ref (aC 0)), (2, .ref (aM 0)), (3, .int x3)]) (ih : ∀ (cells slots : Nat) (aC : Nat → Nat) (IC : zz_I) (LC : zz_L) (aM : Nat → Nat) (IM : zz_I) (LM : zz_L) (H : Heap) (locs : List Loc) (ls : Array Slot), Rv IC LC IM LM → zl_B D ca s aC IC LC aM IM LM H locs → cells ≤ 201 + i → slots ≤ 54016 + 14016 * i → lv_has ls 4 [(0, .ref b), (1, .ref (aC 0)), (2, .ref (aM 0)), (3, .int x3)] → W p l e room_1 s m #[Value.ref b] below meth c H locs cells slots (lw_Z below #[Value.ref b] s) (F0 m 1076 ls [])) : W p l e room_1 s m #[Value.ref b] below meth c H locs cells slots (lw_Z below #[Value.ref b] s) (F0 m 398 ls []) := by
  obtain ⟨hx, hb, hr, hml, hown, hts, hX, hbl, hlocks, hgv⟩ := C0
  have hbA : ¬ (zl_A s) b := Nat.not_le.mpr hbl
  have hS := hB.1.2.2.2
  have hiL : i ≤ 511 := by omega
  have hi1 : vp_in (x3 + (1 : Int32)) L := by rw [ex3, show nI (4 * i) + (1 : Int32) = nI (4 * i + 1) from nI_add _ _]; exact vp_in_nI (by omega) (by omega)
  have hi2 : vp_in (x3 + (2 : Int32)) L := by rw [ex3, show nI (4 * i) + (2 : Int32) = nI (4 * i + 2) from nI_add _ _]; exact vp_in_nI (by omega) (by omega)
  have hi3 : vp_in (x3 + (3 : Int32)) L := by rw [ex3, show nI (4 * i) + (3 : Int32) = nI (4 * i + 3) from nI_add _ _]; exact vp_in_nI (by omega) (by omega)
  have hO := hob IC LC IM LM (xs (x3 + (1 : Int32)).toNatClampNeg) (xs (x3 + (2 : Int32)).toNatClampNeg) (xs (x3 + (3 : Int32)).toNatClampNeg) hR
  refine lv_aload_n hx hb dL_law_398 rfl (lv_at hl 1 rfl) ?_
  refine lv_aload_n hx hb dL_law_399 rfl (lv_at hl 0 rfl) ?_
  refine lv_iload_n hx hb dL_law_400 rfl (lv_at hl 3 rfl) ?_
  refine lv_iconst (v := (1 : Int32)) hx hb dL_law_401 (by decide) ?_
  refine lv_iadd hx hb dL_law_402 ?_
  refine va_sld hx hb hX hbl hbA hS hi1 dL_law_403 ?_
  refine lv_aload_n hx hb dL_law_404 rfl (lv_at hl 0 rfl) ?_
  refine lv_iload_n hx hb dL_law_405 rfl (lv_at hl 3 rfl) ?_
  refine lv_iconst (v := (2 : Int32)) hx hb dL_law_406 (by decide) ?_
  refine lv_iadd hx hb dL_law_407 ?_
  refine va_sld hx hb hX hbl hbA hS hi2 dL_law_408 ?_
  refine lv_aload_n hx hb dL_law_409 rfl (lv_at hl 0 rfl) ?_
  refine lv_iload_n hx hb dL_law_410 rfl (lv_at hl 3 rfl) ?_
  refine lv_iconst (v := (3 : Int32)) hx hb dL_law_411 (by decide) ?_
  refine lv_iadd hx hb dL_law_412 ?_
  refine va_sld hx hb hX hbl hbA hS hi3 dL_law_413 ?_
  refine zl_Ci hB (zz_runV (As := [.int (xs (x3 + (1 : Int32)).toNatClampNeg), .int (xs (x3 + (2 : Int32)).toNatClampNeg), .int (xs (x3 + (3 : Int32)).toNatClampNeg)]) (rest := []) hx hb hml hown zw hB.1 zM_L_56 (zc_X7_setRule l D ca aC IC LC H.size hO) zdC_0 rfl rfl hl.1 rfl (Nat.le_of_ble_eq_true rfl) rfl rfl ⟨Nat.le_of_ble_eq_true rfl, Nat.le_of_ble_eq_true rfl⟩ dL_law_414 ⟨by show cells + 0 ≤ 600000; omega, by show slots + 0 ≤ 7302250; omega⟩) (fun r IC LC H locs hO hB => ?_)
  have hS := hB.1.2.2.2
  refine lv_aload_n hx hb dL_law_417 rfl (lv_at hl 2 rfl) ?_
  refine lv_aload_n hx hb dL_law_418 rfl (lv_at hl 0 rfl) ?_
  refine lv_iload_n hx hb dL_law_419 rfl (lv_at hl 3 rfl) ?_
  refine lv_iconst (v := (1 : Int32)) hx hb dL_law_420 (by decide) ?_
  refine lv_iadd hx hb dL_law_421 ?_
  refine va_sld hx hb hX hbl hbA hS hi1 dL_law_422 ?_
  refine lv_aload_n hx hb dL_law_423 rfl (lv_at hl 0 rfl) ?_
  refine lv_iload_n hx hb dL_law_424 rfl (lv_at hl 3 rfl) ?_
  refine lv_iconst (v := (2 : Int32)) hx hb dL_law_425 (by decide) ?_
  refine lv_iadd hx hb dL_law_426 ?_
  refine va_sld hx hb hX hbl hbA hS hi2 dL_law_427 ?_
  refine lv_aload_n hx hb dL_law_428 rfl (lv_at hl 0 rfl) ?_
  refine lv_iload_n hx hb dL_law_429 rfl (lv_at hl 3 rfl) ?_
  refine lv_iconst (v := (3 : Int32)) hx hb dL_law_430 (by decide) ?_
  refine lv_iadd hx hb dL_law_431 ?_
  refine va_sld hx hb hX hbl hbA hS hi3 dL_law_432 ?_
  refine zl_Mi hB (zz_runV (As := [.int (xs (x3 + (1 : Int32)).toNatClampNeg), .int (xs (x3 + (2 : Int32)).toNatClampNeg), .int (xs (x3 + (3 : Int32)).toNatClampNeg)]) (rest := [.int r]) hx hb hml hown zw hB.2.1 zM_L_60 (zc_X8_setRule l D ca aM IM LM H.size hO) zdM_0 rfl rfl hl.1 rfl (Nat.le_of_ble_eq_true rfl) rfl rfl ⟨Nat.le_of_ble_eq_true rfl, Nat.le_of_ble_eq_true rfl⟩ dL_law_433 ⟨by show cells + 0 ≤ 600000; omega, by show slots + 0 ≤ 7302250; omega⟩) (fun r2 IM LM H locs hO hB => ?_)
  refine lv_icmp_eq (tgt := 1076) hx hb dL_law_436 (by decide) (fun cq => ?_) (fun cq => absurd hO.1 cq)
  exact ih cells slots aC IC LC aM IM LM H locs ls hO.2 hB (by omega) (by omega) hl
def zo_11 (Rv : zz_I → zz_L → zz_I → zz_L → Prop) : Prop := ∀ (IC : zz_I) (LC : zz_L) (IM : zz_I) (LM : zz_L) (p0 : Int32) (p1 : Int32), Rv IC LC IM LM → zp_X7_weigh p0 p1 (fun r IC2 LC2 => zp_X8_weigh p0 p1 (fun r2 IM2 LM2 => r = r2 ∧ Rv IC2 LC2 IM2 LM2) IM LM) IC LC
set_option maxHeartbeats 4000000 in
set_option maxRecDepth 100000 in
theorem zl_case_11 {p : Program} {l : Launch} {e : Env} {s : State} {m : MethodId} {below : List Frame} {meth : Method} {c : Code} {D : va_G} {ca : Nat → ClassId} {b L : Nat} {xs : Nat → Int32} (hL : L ≤ 2048) (C0 : lw_At p s m meth c b L xs) (zw : zz_W s) {Rv : zz_I → zz_L → zz_I → zz_L → Prop} (hob : zo_11 Rv) {i cells slots : Nat} {x3 : Int32} (hi4 : 4 * i + 4 ≤ L) (ex3 : x3 = nI (4 * i)) {aC aM : Nat → Nat} {IC IM : zz_I} {LC LM : zz_L} {H : Heap} {locs : List Loc} {ls : Array Slot} (hR : Rv IC LC IM LM) (hB : zl_B D ca s aC IC LC aM IM LM H locs) (hc : cells ≤ 200 + i) (hs : slots ≤ 40000 + 14016 * i) (hl : lv_has ls 4 [(0, .ref b), (1, .ref (aC 0)), (2, .ref (aM 0)), (3, .int x3)]) (ih : ∀ (cells slots : Nat) (aC : Nat → Nat) (IC : zz_I) (LC : zz_L) (aM : Nat → Nat) (IM : zz_I) (LM : zz_L) (H : Heap) (locs : List Loc) (ls : Array Slot), Rv IC LC IM LM → zl_B D ca s aC IC LC aM IM LM H locs → cells ≤ 201 + i → slots ≤ 54016 + 14016 * i → lv_has ls 4 [(0, .ref b), (1, .ref (aC 0)), (2, .ref (aM 0)), (3, .int x3)] → W p l e room_1 s m #[Value.ref b] below meth c H locs cells slots (lw_Z below #[Value.ref b] s) (F0 m 1076 ls [])) : W p l e room_1 s m #[Value.ref b] below meth c H locs cells slots (lw_Z below #[Value.ref b] s) (F0 m 441 ls []) := by
  obtain ⟨hx, hb, hr, hml, hown, hts, hX, hbl, hlocks, hgv⟩ := C0
  have hbA : ¬ (zl_A s) b := Nat.not_le.mpr hbl
  have hS := hB.1.2.2.2
  have hiL : i ≤ 511 := by omega
  have hi1 : vp_in (x3 + (1 : Int32)) L := by rw [ex3, show nI (4 * i) + (1 : Int32) = nI (4 * i + 1) from nI_add _ _]; exact vp_in_nI (by omega) (by omega)
  have hi2 : vp_in (x3 + (2 : Int32)) L := by rw [ex3, show nI (4 * i) + (2 : Int32) = nI (4 * i + 2) from nI_add _ _]; exact vp_in_nI (by omega) (by omega)
  have hi3 : vp_in (x3 + (3 : Int32)) L := by rw [ex3, show nI (4 * i) + (3 : Int32) = nI (4 * i + 3) from nI_add _ _]; exact vp_in_nI (by omega) (by omega)
  have hO := hob IC LC IM LM (xs (x3 + (1 : Int32)).toNatClampNeg) (xs (x3 + (2 : Int32)).toNatClampNeg) hR
  refine lv_aload_n hx hb dL_law_441 rfl (lv_at hl 1 rfl) ?_
  refine lv_aload_n hx hb dL_law_442 rfl (lv_at hl 0 rfl) ?_
  refine lv_iload_n hx hb dL_law_443 rfl (lv_at hl 3 rfl) ?_
  refine lv_iconst (v := (1 : Int32)) hx hb dL_law_444 (by decide) ?_
  refine lv_iadd hx hb dL_law_445 ?_
  refine va_sld hx hb hX hbl hbA hS hi1 dL_law_446 ?_
  refine lv_aload_n hx hb dL_law_447 rfl (lv_at hl 0 rfl) ?_
  refine lv_iload_n hx hb dL_law_448 rfl (lv_at hl 3 rfl) ?_
  refine lv_iconst (v := (2 : Int32)) hx hb dL_law_449 (by decide) ?_
  refine lv_iadd hx hb dL_law_450 ?_
  refine va_sld hx hb hX hbl hbA hS hi2 dL_law_451 ?_
  refine zl_Ci hB (zz_runV (As := [.int (xs (x3 + (1 : Int32)).toNatClampNeg), .int (xs (x3 + (2 : Int32)).toNatClampNeg)]) (rest := []) hx hb hml hown zw hB.1 zM_L_61 (zc_X7_weigh l D ca aC IC LC H.size hO) zdC_0 rfl rfl hl.1 rfl (Nat.le_of_ble_eq_true rfl) rfl rfl ⟨Nat.le_of_ble_eq_true rfl, Nat.le_of_ble_eq_true rfl⟩ dL_law_452 ⟨by show cells + 0 ≤ 600000; omega, by show slots + 0 ≤ 7302250; omega⟩) (fun r IC LC H locs hO hB => ?_)
  have hS := hB.1.2.2.2
  refine lv_aload_n hx hb dL_law_455 rfl (lv_at hl 2 rfl) ?_
  refine lv_aload_n hx hb dL_law_456 rfl (lv_at hl 0 rfl) ?_
  refine lv_iload_n hx hb dL_law_457 rfl (lv_at hl 3 rfl) ?_
  refine lv_iconst (v := (1 : Int32)) hx hb dL_law_458 (by decide) ?_
  refine lv_iadd hx hb dL_law_459 ?_
  refine va_sld hx hb hX hbl hbA hS hi1 dL_law_460 ?_
  refine lv_aload_n hx hb dL_law_461 rfl (lv_at hl 0 rfl) ?_
  refine lv_iload_n hx hb dL_law_462 rfl (lv_at hl 3 rfl) ?_
  refine lv_iconst (v := (2 : Int32)) hx hb dL_law_463 (by decide) ?_
  refine lv_iadd hx hb dL_law_464 ?_
  refine va_sld hx hb hX hbl hbA hS hi2 dL_law_465 ?_
  refine zl_Mi hB (zz_runV (As := [.int (xs (x3 + (1 : Int32)).toNatClampNeg), .int (xs (x3 + (2 : Int32)).toNatClampNeg)]) (rest := [.int r]) hx hb hml hown zw hB.2.1 zM_L_64 (zc_X8_weigh l D ca aM IM LM H.size hO) zdM_0 rfl rfl hl.1 rfl (Nat.le_of_ble_eq_true rfl) rfl rfl ⟨Nat.le_of_ble_eq_true rfl, Nat.le_of_ble_eq_true rfl⟩ dL_law_466 ⟨by show cells + 0 ≤ 600000; omega, by show slots + 0 ≤ 7302250; omega⟩) (fun r2 IM LM H locs hO hB => ?_)
  refine lv_icmp_eq (tgt := 1076) hx hb dL_law_469 (by decide) (fun cq => ?_) (fun cq => absurd hO.1 cq)
  exact ih cells slots aC IC LC aM IM LM H locs ls hO.2 hB (by omega) (by omega) hl
def zo_12 (Rv : zz_I → zz_L → zz_I → zz_L → Prop) : Prop := ∀ (IC : zz_I) (LC : zz_L) (IM : zz_I) (LM : zz_L), Rv IC LC IM LM → zp_X7_undo  (fun r IC2 LC2 => zp_X8_undo  (fun r2 IM2 LM2 => r = r2 ∧ Rv IC2 LC2 IM2 LM2) IM LM) IC LC
set_option maxHeartbeats 4000000 in
set_option maxRecDepth 100000 in
theorem zl_case_12 {p : Program} {l : Launch} {e : Env} {s : State} {m : MethodId} {below : List Frame} {meth : Method} {c : Code} {D : va_G} {ca : Nat → ClassId} {b L : Nat} {xs : Nat → Int32} (hL : L ≤ 2048) (C0 : lw_At p s m meth c b L xs) (zw : zz_W s) {Rv : zz_I → zz_L → zz_I → zz_L → Prop} (hob : zo_12 Rv) {i cells slots : Nat} {x3 : Int32} (hi4 : 4 * i + 4 ≤ L) (ex3 : x3 = nI (4 * i)) {aC aM : Nat → Nat} {IC IM : zz_I} {LC LM : zz_L} {H : Heap} {locs : List Loc} {ls : Array Slot} (hR : Rv IC LC IM LM) (hB : zl_B D ca s aC IC LC aM IM LM H locs) (hc : cells ≤ 200 + i) (hs : slots ≤ 40000 + 14016 * i) (hl : lv_has ls 4 [(0, .ref b), (1, .ref (aC 0)), (2, .ref (aM 0)), (3, .int x3)]) (ih : ∀ (cells slots : Nat) (aC : Nat → Nat) (IC : zz_I) (LC : zz_L) (aM : Nat → Nat) (IM : zz_I) (LM : zz_L) (H : Heap) (locs : List Loc) (ls : Array Slot), Rv IC LC IM LM → zl_B D ca s aC IC LC aM IM LM H locs → cells ≤ 201 + i → slots ≤ 54016 + 14016 * i → lv_has ls 4 [(0, .ref b), (1, .ref (aC 0)), (2, .ref (aM 0)), (3, .int x3)] → W p l e room_1 s m #[Value.ref b] below meth c H locs cells slots (lw_Z below #[Value.ref b] s) (F0 m 1076 ls [])) : W p l e room_1 s m #[Value.ref b] below meth c H locs cells slots (lw_Z below #[Value.ref b] s) (F0 m 474 ls []) := by
  obtain ⟨hx, hb, hr, hml, hown, hts, hX, hbl, hlocks, hgv⟩ := C0
  have hbA : ¬ (zl_A s) b := Nat.not_le.mpr hbl
  have hS := hB.1.2.2.2
  have hiL : i ≤ 511 := by omega
  have hi1 : vp_in (x3 + (1 : Int32)) L := by rw [ex3, show nI (4 * i) + (1 : Int32) = nI (4 * i + 1) from nI_add _ _]; exact vp_in_nI (by omega) (by omega)
  have hi2 : vp_in (x3 + (2 : Int32)) L := by rw [ex3, show nI (4 * i) + (2 : Int32) = nI (4 * i + 2) from nI_add _ _]; exact vp_in_nI (by omega) (by omega)
  have hi3 : vp_in (x3 + (3 : Int32)) L := by rw [ex3, show nI (4 * i) + (3 : Int32) = nI (4 * i + 3) from nI_add _ _]; exact vp_in_nI (by omega) (by omega)
  have hO := hob IC LC IM LM  hR
  refine lv_aload_n hx hb dL_law_474 rfl (lv_at hl 1 rfl) ?_
  refine zl_Ci hB (zz_runV (As := []) (rest := []) hx hb hml hown zw hB.1 zM_L_65 (zc_X7_undo l D ca aC IC LC H.size hO) zdC_0 rfl rfl hl.1 rfl (Nat.le_of_ble_eq_true rfl) rfl rfl ⟨Nat.le_of_ble_eq_true rfl, Nat.le_of_ble_eq_true rfl⟩ dL_law_475 ⟨by show cells + 0 ≤ 600000; omega, by show slots + 0 ≤ 7302250; omega⟩) (fun r IC LC H locs hO hB => ?_)
  have hS := hB.1.2.2.2
  refine lv_aload_n hx hb dL_law_478 rfl (lv_at hl 2 rfl) ?_
  refine zl_Mi hB (zz_runV (As := []) (rest := [.int r]) hx hb hml hown zw hB.2.1 zM_L_68 (zc_X8_undo l D ca aM IM LM H.size hO) zdM_0 rfl rfl hl.1 rfl (Nat.le_of_ble_eq_true rfl) rfl rfl ⟨Nat.le_of_ble_eq_true rfl, Nat.le_of_ble_eq_true rfl⟩ dL_law_479 ⟨by show cells + 0 ≤ 600000; omega, by show slots + 0 ≤ 7302250; omega⟩) (fun r2 IM LM H locs hO hB => ?_)
  refine lv_icmp_eq (tgt := 1076) hx hb dL_law_482 (by decide) (fun cq => ?_) (fun cq => absurd hO.1 cq)
  exact ih cells slots aC IC LC aM IM LM H locs ls hO.2 hB (by omega) (by omega) hl
def zo_13 (Rv : zz_I → zz_L → zz_I → zz_L → Prop) : Prop := ∀ (IC : zz_I) (LC : zz_L) (IM : zz_I) (LM : zz_L) (p0 : Int32) (p1 : Int32), Rv IC LC IM LM → zp_X7_lies p0 p1 (fun r => zp_X8_lies p0 p1 (fun r2 IM2 LM2 => r = r2 ∧ Rv IC LC IM2 LM2) IM LM) IC LC
set_option maxHeartbeats 4000000 in
set_option maxRecDepth 100000 in
theorem zl_case_13 {p : Program} {l : Launch} {e : Env} {s : State} {m : MethodId} {below : List Frame} {meth : Method} {c : Code} {D : va_G} {ca : Nat → ClassId} {b L : Nat} {xs : Nat → Int32} (hL : L ≤ 2048) (C0 : lw_At p s m meth c b L xs) (zw : zz_W s) {Rv : zz_I → zz_L → zz_I → zz_L → Prop} (hob : zo_13 Rv) {i cells slots : Nat} {x3 : Int32} (hi4 : 4 * i + 4 ≤ L) (ex3 : x3 = nI (4 * i)) {aC aM : Nat → Nat} {IC IM : zz_I} {LC LM : zz_L} {H : Heap} {locs : List Loc} {ls : Array Slot} (hR : Rv IC LC IM LM) (hB : zl_B D ca s aC IC LC aM IM LM H locs) (hc : cells ≤ 200 + i) (hs : slots ≤ 40000 + 14016 * i) (hl : lv_has ls 4 [(0, .ref b), (1, .ref (aC 0)), (2, .ref (aM 0)), (3, .int x3)]) (ih : ∀ (cells slots : Nat) (aC : Nat → Nat) (IC : zz_I) (LC : zz_L) (aM : Nat → Nat) (IM : zz_I) (LM : zz_L) (H : Heap) (locs : List Loc) (ls : Array Slot), Rv IC LC IM LM → zl_B D ca s aC IC LC aM IM LM H locs → cells ≤ 201 + i → slots ≤ 54016 + 14016 * i → lv_has ls 4 [(0, .ref b), (1, .ref (aC 0)), (2, .ref (aM 0)), (3, .int x3)] → W p l e room_1 s m #[Value.ref b] below meth c H locs cells slots (lw_Z below #[Value.ref b] s) (F0 m 1076 ls [])) : W p l e room_1 s m #[Value.ref b] below meth c H locs cells slots (lw_Z below #[Value.ref b] s) (F0 m 487 ls []) := by
  obtain ⟨hx, hb, hr, hml, hown, hts, hX, hbl, hlocks, hgv⟩ := C0
  have hbA : ¬ (zl_A s) b := Nat.not_le.mpr hbl
  have hS := hB.1.2.2.2
  have hiL : i ≤ 511 := by omega
  have hi1 : vp_in (x3 + (1 : Int32)) L := by rw [ex3, show nI (4 * i) + (1 : Int32) = nI (4 * i + 1) from nI_add _ _]; exact vp_in_nI (by omega) (by omega)
  have hi2 : vp_in (x3 + (2 : Int32)) L := by rw [ex3, show nI (4 * i) + (2 : Int32) = nI (4 * i + 2) from nI_add _ _]; exact vp_in_nI (by omega) (by omega)
  have hi3 : vp_in (x3 + (3 : Int32)) L := by rw [ex3, show nI (4 * i) + (3 : Int32) = nI (4 * i + 3) from nI_add _ _]; exact vp_in_nI (by omega) (by omega)
  have hO := hob IC LC IM LM (xs (x3 + (1 : Int32)).toNatClampNeg) (xs (x3 + (2 : Int32)).toNatClampNeg) hR
  refine lv_aload_n hx hb dL_law_487 rfl (lv_at hl 1 rfl) ?_
  refine lv_aload_n hx hb dL_law_488 rfl (lv_at hl 0 rfl) ?_
  refine lv_iload_n hx hb dL_law_489 rfl (lv_at hl 3 rfl) ?_
  refine lv_iconst (v := (1 : Int32)) hx hb dL_law_490 (by decide) ?_
  refine lv_iadd hx hb dL_law_491 ?_
  refine va_sld hx hb hX hbl hbA hS hi1 dL_law_492 ?_
  refine lv_aload_n hx hb dL_law_493 rfl (lv_at hl 0 rfl) ?_
  refine lv_iload_n hx hb dL_law_494 rfl (lv_at hl 3 rfl) ?_
  refine lv_iconst (v := (2 : Int32)) hx hb dL_law_495 (by decide) ?_
  refine lv_iadd hx hb dL_law_496 ?_
  refine va_sld hx hb hX hbl hbA hS hi2 dL_law_497 ?_
  refine zl_Cip hB (zz_runV (As := [.int (xs (x3 + (1 : Int32)).toNatClampNeg), .int (xs (x3 + (2 : Int32)).toNatClampNeg)]) (rest := []) hx hb hml hown zw hB.1 zM_L_69 (zc_X7_lies l D ca aC IC LC H.size hO) zdC_0 rfl rfl hl.1 rfl (Nat.le_of_ble_eq_true rfl) rfl rfl ⟨Nat.le_of_ble_eq_true rfl, Nat.le_of_ble_eq_true rfl⟩ dL_law_498 ⟨by show cells + 0 ≤ 600000; omega, by show slots + 0 ≤ 7302250; omega⟩) (fun r H locs hO hB => ?_)
  have hS := hB.1.2.2.2
  refine lv_aload_n hx hb dL_law_501 rfl (lv_at hl 2 rfl) ?_
  refine lv_aload_n hx hb dL_law_502 rfl (lv_at hl 0 rfl) ?_
  refine lv_iload_n hx hb dL_law_503 rfl (lv_at hl 3 rfl) ?_
  refine lv_iconst (v := (1 : Int32)) hx hb dL_law_504 (by decide) ?_
  refine lv_iadd hx hb dL_law_505 ?_
  refine va_sld hx hb hX hbl hbA hS hi1 dL_law_506 ?_
  refine lv_aload_n hx hb dL_law_507 rfl (lv_at hl 0 rfl) ?_
  refine lv_iload_n hx hb dL_law_508 rfl (lv_at hl 3 rfl) ?_
  refine lv_iconst (v := (2 : Int32)) hx hb dL_law_509 (by decide) ?_
  refine lv_iadd hx hb dL_law_510 ?_
  refine va_sld hx hb hX hbl hbA hS hi2 dL_law_511 ?_
  refine zl_Mi hB (zz_runV (As := [.int (xs (x3 + (1 : Int32)).toNatClampNeg), .int (xs (x3 + (2 : Int32)).toNatClampNeg)]) (rest := [.int r]) hx hb hml hown zw hB.2.1 zM_L_72 (zc_X8_lies l D ca aM IM LM H.size hO) zdM_0 rfl rfl hl.1 rfl (Nat.le_of_ble_eq_true rfl) rfl rfl ⟨Nat.le_of_ble_eq_true rfl, Nat.le_of_ble_eq_true rfl⟩ dL_law_512 ⟨by show cells + 0 ≤ 600000; omega, by show slots + 0 ≤ 7302250; omega⟩) (fun r2 IM LM H locs hO hB => ?_)
  refine lv_icmp_eq (tgt := 1076) hx hb dL_law_515 (by decide) (fun cq => ?_) (fun cq => absurd hO.1 cq)
  exact ih cells slots aC IC LC aM IM LM H locs ls hO.2 hB (by omega) (by omega) hl
def zo_14 (Rv : zz_I → zz_L → zz_I → zz_L → Prop) : Prop := ∀ (IC : zz_I) (LC : zz_L) (IM : zz_I) (LM : zz_L), Rv IC LC IM LM → zp_X7_readings  (fun r IC2 LC2 => zp_X8_readings  (fun r2 IM2 LM2 => r = r2 ∧ Rv IC2 LC2 IM2 LM2) IM LM) IC LC
set_option maxHeartbeats 4000000 in
set_option maxRecDepth 100000 in
theorem zl_case_14 {p : Program} {l : Launch} {e : Env} {s : State} {m : MethodId} {below : List Frame} {meth : Method} {c : Code} {D : va_G} {ca : Nat → ClassId} {b L : Nat} {xs : Nat → Int32} (hL : L ≤ 2048) (C0 : lw_At p s m meth c b L xs) (zw : zz_W s) {Rv : zz_I → zz_L → zz_I → zz_L → Prop} (hob : zo_14 Rv) {i cells slots : Nat} {x3 : Int32} (hi4 : 4 * i + 4 ≤ L) (ex3 : x3 = nI (4 * i)) {aC aM : Nat → Nat} {IC IM : zz_I} {LC LM : zz_L} {H : Heap} {locs : List Loc} {ls : Array Slot} (hR : Rv IC LC IM LM) (hB : zl_B D ca s aC IC LC aM IM LM H locs) (hc : cells ≤ 200 + i) (hs : slots ≤ 40000 + 14016 * i) (hl : lv_has ls 4 [(0, .ref b), (1, .ref (aC 0)), (2, .ref (aM 0)), (3, .int x3)]) (ih : ∀ (cells slots : Nat) (aC : Nat → Nat) (IC : zz_I) (LC : zz_L) (aM : Nat → Nat) (IM : zz_I) (LM : zz_L) (H : Heap) (locs : List Loc) (ls : Array Slot), Rv IC LC IM LM → zl_B D ca s aC IC LC aM IM LM H locs → cells ≤ 201 + i → slots ≤ 54016 + 14016 * i → lv_has ls 4 [(0, .ref b), (1, .ref (aC 0)), (2, .ref (aM 0)), (3, .int x3)] → W p l e room_1 s m #[Value.ref b] below meth c H locs cells slots (lw_Z below #[Value.ref b] s) (F0 m 1076 ls [])) : W p l e room_1 s m #[Value.ref b] below meth c H locs cells slots (lw_Z below #[Value.ref b] s) (F0 m 520 ls []) := by
  obtain ⟨hx, hb, hr, hml, hown, hts, hX, hbl, hlocks, hgv⟩ := C0
  have hbA : ¬ (zl_A s) b := Nat.not_le.mpr hbl
  have hS := hB.1.2.2.2
  have hiL : i ≤ 511 := by omega
  have hi1 : vp_in (x3 + (1 : Int32)) L := by rw [ex3, show nI (4 * i) + (1 : Int32) = nI (4 * i + 1) from nI_add _ _]; exact vp_in_nI (by omega) (by omega)
  have hi2 : vp_in (x3 + (2 : Int32)) L := by rw [ex3, show nI (4 * i) + (2 : Int32) = nI (4 * i + 2) from nI_add _ _]; exact vp_in_nI (by omega) (by omega)
  have hi3 : vp_in (x3 + (3 : Int32)) L := by rw [ex3, show nI (4 * i) + (3 : Int32) = nI (4 * i + 3) from nI_add _ _]; exact vp_in_nI (by omega) (by omega)
  have hO := hob IC LC IM LM  hR
  refine lv_aload_n hx hb dL_law_520 rfl (lv_at hl 1 rfl) ?_
  refine zl_Cl hB (zz_runV (As := []) (rest := []) hx hb hml hown zw hB.1 zM_L_73 (zc_X7_readings l D ca aC IC LC H.size hO) zdC_0 rfl rfl hl.1 rfl (Nat.le_of_ble_eq_true rfl) rfl rfl ⟨Nat.le_of_ble_eq_true rfl, Nat.le_of_ble_eq_true rfl⟩ dL_law_521 ⟨by show cells + 0 ≤ 600000; omega, by show slots + 0 ≤ 7302250; omega⟩) (fun r IC LC H locs hO hB => ?_)
  have hS := hB.1.2.2.2
  refine lv_aload_n hx hb dL_law_524 rfl (lv_at hl 2 rfl) ?_
  refine zl_Ml hB (zz_runV (As := []) (rest := [.long r]) hx hb hml hown zw hB.2.1 zM_L_77 (zc_X8_readings l D ca aM IM LM H.size hO) zdM_0 rfl rfl hl.1 rfl (Nat.le_of_ble_eq_true rfl) rfl rfl ⟨Nat.le_of_ble_eq_true rfl, Nat.le_of_ble_eq_true rfl⟩ dL_law_525 ⟨by show cells + 0 ≤ 600000; omega, by show slots + 0 ≤ 7302250; omega⟩) (fun r2 IM LM H locs hO hB => ?_)
  refine zz_l_eq (tgt := 1076) hx hb dL_law_528 dL_law_529 (by decide) (fun cq => ?_) (fun cq => absurd hO.1 cq)
  exact ih cells slots aC IC LC aM IM LM H locs ls hO.2 hB (by omega) (by omega) hl
def zo_15 (Rv : zz_I → zz_L → zz_I → zz_L → Prop) : Prop := ∀ (IC : zz_I) (LC : zz_L) (IM : zz_I) (LM : zz_L) (p0 : Int64) (p1 : Int32), Rv IC LC IM LM → zp_X7_rankn p0 p1 (fun r IC2 LC2 => zp_X8_rank p0 p1 (fun r2 IM2 LM2 => r = r2 ∧ Rv IC2 LC2 IM2 LM2) IM LM) IC LC
set_option maxHeartbeats 4000000 in
set_option maxRecDepth 100000 in
theorem zl_case_15 {p : Program} {l : Launch} {e : Env} {s : State} {m : MethodId} {below : List Frame} {meth : Method} {c : Code} {D : va_G} {ca : Nat → ClassId} {b L : Nat} {xs : Nat → Int32} (hL : L ≤ 2048) (C0 : lw_At p s m meth c b L xs) (zw : zz_W s) {Rv : zz_I → zz_L → zz_I → zz_L → Prop} (hob : zo_15 Rv) {i cells slots : Nat} {x3 : Int32} (hi4 : 4 * i + 4 ≤ L) (ex3 : x3 = nI (4 * i)) {aC aM : Nat → Nat} {IC IM : zz_I} {LC LM : zz_L} {H : Heap} {locs : List Loc} {ls : Array Slot} (hR : Rv IC LC IM LM) (hB : zl_B D ca s aC IC LC aM IM LM H locs) (hc : cells ≤ 200 + i) (hs : slots ≤ 40000 + 14016 * i) (hl : lv_has ls 4 [(0, .ref b), (1, .ref (aC 0)), (2, .ref (aM 0)), (3, .int x3)]) (ih : ∀ (cells slots : Nat) (aC : Nat → Nat) (IC : zz_I) (LC : zz_L) (aM : Nat → Nat) (IM : zz_I) (LM : zz_L) (H : Heap) (locs : List Loc) (ls : Array Slot), Rv IC LC IM LM → zl_B D ca s aC IC LC aM IM LM H locs → cells ≤ 201 + i → slots ≤ 54016 + 14016 * i → lv_has ls 4 [(0, .ref b), (1, .ref (aC 0)), (2, .ref (aM 0)), (3, .int x3)] → W p l e room_1 s m #[Value.ref b] below meth c H locs cells slots (lw_Z below #[Value.ref b] s) (F0 m 1076 ls [])) : W p l e room_1 s m #[Value.ref b] below meth c H locs cells slots (lw_Z below #[Value.ref b] s) (F0 m 534 ls []) := by
  obtain ⟨hx, hb, hr, hml, hown, hts, hX, hbl, hlocks, hgv⟩ := C0
  have hbA : ¬ (zl_A s) b := Nat.not_le.mpr hbl
  have hS := hB.1.2.2.2
  have hiL : i ≤ 511 := by omega
  have hi1 : vp_in (x3 + (1 : Int32)) L := by rw [ex3, show nI (4 * i) + (1 : Int32) = nI (4 * i + 1) from nI_add _ _]; exact vp_in_nI (by omega) (by omega)
  have hi2 : vp_in (x3 + (2 : Int32)) L := by rw [ex3, show nI (4 * i) + (2 : Int32) = nI (4 * i + 2) from nI_add _ _]; exact vp_in_nI (by omega) (by omega)
  have hi3 : vp_in (x3 + (3 : Int32)) L := by rw [ex3, show nI (4 * i) + (3 : Int32) = nI (4 * i + 3) from nI_add _ _]; exact vp_in_nI (by omega) (by omega)
  have hO := hob IC LC IM LM ((((xs (x3 + (1 : Int32)).toNatClampNeg).toInt64) <<< ((32 : Int32).toInt64 &&& 63)) ||| (((xs (x3 + (2 : Int32)).toNatClampNeg).toInt64) &&& (4294967295 : Int64))) (xs (x3 + (3 : Int32)).toNatClampNeg) hR
  refine lv_aload_n hx hb dL_law_534 rfl (lv_at hl 1 rfl) ?_
  refine lv_aload_n hx hb dL_law_535 rfl (lv_at hl 0 rfl) ?_
  refine lv_iload_n hx hb dL_law_536 rfl (lv_at hl 3 rfl) ?_
  refine lv_iconst (v := (1 : Int32)) hx hb dL_law_537 (by decide) ?_
  refine lv_iadd hx hb dL_law_538 ?_
  refine va_sld hx hb hX hbl hbA hS hi1 dL_law_539 ?_
  refine lv_i2l (v := (xs (x3 + (1 : Int32)).toNatClampNeg).toInt64) hx hb dL_law_540 rfl ?_
  refine lv_bipush (v := (32 : Int32)) hx hb dL_law_541 (by decide) ?_
  refine lv_lshl (v := ((xs (x3 + (1 : Int32)).toNatClampNeg).toInt64) <<< ((32 : Int32).toInt64 &&& 63)) hx hb dL_law_543 rfl ?_
  refine lv_aload_n hx hb dL_law_544 rfl (lv_at hl 0 rfl) ?_
  refine lv_iload_n hx hb dL_law_545 rfl (lv_at hl 3 rfl) ?_
  refine lv_iconst (v := (2 : Int32)) hx hb dL_law_546 (by decide) ?_
  refine lv_iadd hx hb dL_law_547 ?_
  refine va_sld hx hb hX hbl hbA hS hi2 dL_law_548 ?_
  refine lv_i2l (v := (xs (x3 + (2 : Int32)).toNatClampNeg).toInt64) hx hb dL_law_549 rfl ?_
  refine lv_ldc2 (v := (4294967295 : Int64)) hx hb hown (zz_W_use zw zk_L_78 rfl) dL_law_550 ?_
  refine lv_land hx hb dL_law_553 ?_
  refine lv_lor hx hb dL_law_554 ?_
  refine lv_aload_n hx hb dL_law_555 rfl (lv_at hl 0 rfl) ?_
  refine lv_iload_n hx hb dL_law_556 rfl (lv_at hl 3 rfl) ?_
  refine lv_iconst (v := (3 : Int32)) hx hb dL_law_557 (by decide) ?_
  refine lv_iadd hx hb dL_law_558 ?_
  refine va_sld hx hb hX hbl hbA hS hi3 dL_law_559 ?_
  refine zl_CiN hB (zz_runV (As := [.long ((((xs (x3 + (1 : Int32)).toNatClampNeg).toInt64) <<< ((32 : Int32).toInt64 &&& 63)) ||| (((xs (x3 + (2 : Int32)).toNatClampNeg).toInt64) &&& (4294967295 : Int64))), .int (xs (x3 + (3 : Int32)).toNatClampNeg)]) (rest := []) hx hb hml hown zw hB.1 zM_L_80 (zc_X7_rankn l D ca aC IC LC H.size hO) zdC_0 rfl rfl hl.1 rfl (Nat.le_of_ble_eq_true rfl) rfl rfl ⟨Nat.le_of_ble_eq_true rfl, Nat.le_of_ble_eq_true rfl⟩ dL_law_560 ⟨by show cells + 1 ≤ 600000; omega, by show slots + 14016 ≤ 7302250; omega⟩) (fun r a1 IC LC H locs hO ha1 hB => ?_)
  rw [← ha1] at hl
  have hS := hB.1.2.2.2
  refine lv_aload_n hx hb dL_law_563 rfl (lv_at hl 2 rfl) ?_
  refine lv_aload_n hx hb dL_law_564 rfl (lv_at hl 0 rfl) ?_
  refine lv_iload_n hx hb dL_law_565 rfl (lv_at hl 3 rfl) ?_
  refine lv_iconst (v := (1 : Int32)) hx hb dL_law_566 (by decide) ?_
  refine lv_iadd hx hb dL_law_567 ?_
  refine va_sld hx hb hX hbl hbA hS hi1 dL_law_568 ?_
  refine lv_i2l (v := (xs (x3 + (1 : Int32)).toNatClampNeg).toInt64) hx hb dL_law_569 rfl ?_
  refine lv_bipush (v := (32 : Int32)) hx hb dL_law_570 (by decide) ?_
  refine lv_lshl (v := ((xs (x3 + (1 : Int32)).toNatClampNeg).toInt64) <<< ((32 : Int32).toInt64 &&& 63)) hx hb dL_law_572 rfl ?_
  refine lv_aload_n hx hb dL_law_573 rfl (lv_at hl 0 rfl) ?_
  refine lv_iload_n hx hb dL_law_574 rfl (lv_at hl 3 rfl) ?_
  refine lv_iconst (v := (2 : Int32)) hx hb dL_law_575 (by decide) ?_
  refine lv_iadd hx hb dL_law_576 ?_
  refine va_sld hx hb hX hbl hbA hS hi2 dL_law_577 ?_
  refine lv_i2l (v := (xs (x3 + (2 : Int32)).toNatClampNeg).toInt64) hx hb dL_law_578 rfl ?_
  refine lv_ldc2 (v := (4294967295 : Int64)) hx hb hown (zz_W_use zw zk_L_78 rfl) dL_law_579 ?_
  refine lv_land hx hb dL_law_582 ?_
  refine lv_lor hx hb dL_law_583 ?_
  refine lv_aload_n hx hb dL_law_584 rfl (lv_at hl 0 rfl) ?_
  refine lv_iload_n hx hb dL_law_585 rfl (lv_at hl 3 rfl) ?_
  refine lv_iconst (v := (3 : Int32)) hx hb dL_law_586 (by decide) ?_
  refine lv_iadd hx hb dL_law_587 ?_
  refine va_sld hx hb hX hbl hbA hS hi3 dL_law_588 ?_
  refine zl_Mi hB (zz_runV (As := [.long ((((xs (x3 + (1 : Int32)).toNatClampNeg).toInt64) <<< ((32 : Int32).toInt64 &&& 63)) ||| (((xs (x3 + (2 : Int32)).toNatClampNeg).toInt64) &&& (4294967295 : Int64))), .int (xs (x3 + (3 : Int32)).toNatClampNeg)]) (rest := [.int r]) hx hb hml hown zw hB.2.1 zM_L_84 (zc_X8_rank l D ca aM IM LM H.size hO) zdM_0 rfl rfl hl.1 rfl (Nat.le_of_ble_eq_true rfl) rfl rfl ⟨Nat.le_of_ble_eq_true rfl, Nat.le_of_ble_eq_true rfl⟩ dL_law_589 ⟨by show cells + 1 + 0 ≤ 600000; omega, by show slots + 14016 + 0 ≤ 7302250; omega⟩) (fun r2 IM LM H locs hO hB => ?_)
  refine lv_icmp_eq (tgt := 1076) hx hb dL_law_592 (by decide) (fun cq => ?_) (fun cq => absurd hO.1 cq)
  exact ih (cells + 1) (slots + 14016) a1 IC LC aM IM LM H locs ls hO.2 hB (by omega) (by omega) hl
def zo_16 (Rv : zz_I → zz_L → zz_I → zz_L → Prop) : Prop := ∀ (IC : zz_I) (LC : zz_L) (IM : zz_I) (LM : zz_L) (p0 : Int32) (p1 : Int32), Rv IC LC IM LM → zp_X7_stands p0 p1 (fun r IC2 LC2 => zp_X8_stands p0 p1 (fun r2 IM2 LM2 => r = r2 ∧ Rv IC2 LC2 IM2 LM2) IM LM) IC LC
set_option maxHeartbeats 4000000 in
set_option maxRecDepth 100000 in
theorem zl_case_16 {p : Program} {l : Launch} {e : Env} {s : State} {m : MethodId} {below : List Frame} {meth : Method} {c : Code} {D : va_G} {ca : Nat → ClassId} {b L : Nat} {xs : Nat → Int32} (hL : L ≤ 2048) (C0 : lw_At p s m meth c b L xs) (zw : zz_W s) {Rv : zz_I → zz_L → zz_I → zz_L → Prop} (hob : zo_16 Rv) {i cells slots : Nat} {x3 : Int32} (hi4 : 4 * i + 4 ≤ L) (ex3 : x3 = nI (4 * i)) {aC aM : Nat → Nat} {IC IM : zz_I} {LC LM : zz_L} {H : Heap} {locs : List Loc} {ls : Array Slot} (hR : Rv IC LC IM LM) (hB : zl_B D ca s aC IC LC aM IM LM H locs) (hc : cells ≤ 200 + i) (hs : slots ≤ 40000 + 14016 * i) (hl : lv_has ls 4 [(0, .ref b), (1, .ref (aC 0)), (2, .ref (aM 0)), (3, .int x3)]) (ih : ∀ (cells slots : Nat) (aC : Nat → Nat) (IC : zz_I) (LC : zz_L) (aM : Nat → Nat) (IM : zz_I) (LM : zz_L) (H : Heap) (locs : List Loc) (ls : Array Slot), Rv IC LC IM LM → zl_B D ca s aC IC LC aM IM LM H locs → cells ≤ 201 + i → slots ≤ 54016 + 14016 * i → lv_has ls 4 [(0, .ref b), (1, .ref (aC 0)), (2, .ref (aM 0)), (3, .int x3)] → W p l e room_1 s m #[Value.ref b] below meth c H locs cells slots (lw_Z below #[Value.ref b] s) (F0 m 1076 ls [])) : W p l e room_1 s m #[Value.ref b] below meth c H locs cells slots (lw_Z below #[Value.ref b] s) (F0 m 597 ls []) := by
  obtain ⟨hx, hb, hr, hml, hown, hts, hX, hbl, hlocks, hgv⟩ := C0
  have hbA : ¬ (zl_A s) b := Nat.not_le.mpr hbl
  have hS := hB.1.2.2.2
  have hiL : i ≤ 511 := by omega
  have hi1 : vp_in (x3 + (1 : Int32)) L := by rw [ex3, show nI (4 * i) + (1 : Int32) = nI (4 * i + 1) from nI_add _ _]; exact vp_in_nI (by omega) (by omega)
  have hi2 : vp_in (x3 + (2 : Int32)) L := by rw [ex3, show nI (4 * i) + (2 : Int32) = nI (4 * i + 2) from nI_add _ _]; exact vp_in_nI (by omega) (by omega)
  have hi3 : vp_in (x3 + (3 : Int32)) L := by rw [ex3, show nI (4 * i) + (3 : Int32) = nI (4 * i + 3) from nI_add _ _]; exact vp_in_nI (by omega) (by omega)
  have hO := hob IC LC IM LM (xs (x3 + (1 : Int32)).toNatClampNeg) (xs (x3 + (2 : Int32)).toNatClampNeg) hR
  refine lv_aload_n hx hb dL_law_597 rfl (lv_at hl 1 rfl) ?_
  refine lv_aload_n hx hb dL_law_598 rfl (lv_at hl 0 rfl) ?_
  refine lv_iload_n hx hb dL_law_599 rfl (lv_at hl 3 rfl) ?_
  refine lv_iconst (v := (1 : Int32)) hx hb dL_law_600 (by decide) ?_
  refine lv_iadd hx hb dL_law_601 ?_
  refine va_sld hx hb hX hbl hbA hS hi1 dL_law_602 ?_
  refine lv_aload_n hx hb dL_law_603 rfl (lv_at hl 0 rfl) ?_
  refine lv_iload_n hx hb dL_law_604 rfl (lv_at hl 3 rfl) ?_
  refine lv_iconst (v := (2 : Int32)) hx hb dL_law_605 (by decide) ?_
  refine lv_iadd hx hb dL_law_606 ?_
  refine va_sld hx hb hX hbl hbA hS hi2 dL_law_607 ?_
  refine zl_Cl hB (zz_runV (As := [.int (xs (x3 + (1 : Int32)).toNatClampNeg), .int (xs (x3 + (2 : Int32)).toNatClampNeg)]) (rest := []) hx hb hml hown zw hB.1 zM_L_85 (zc_X7_stands l D ca aC IC LC H.size hO) zdC_0 rfl rfl hl.1 rfl (Nat.le_of_ble_eq_true rfl) rfl rfl ⟨Nat.le_of_ble_eq_true rfl, Nat.le_of_ble_eq_true rfl⟩ dL_law_608 ⟨by show cells + 0 ≤ 600000; omega, by show slots + 0 ≤ 7302250; omega⟩) (fun r IC LC H locs hO hB => ?_)
  have hS := hB.1.2.2.2
  refine lv_aload_n hx hb dL_law_611 rfl (lv_at hl 2 rfl) ?_
  refine lv_aload_n hx hb dL_law_612 rfl (lv_at hl 0 rfl) ?_
  refine lv_iload_n hx hb dL_law_613 rfl (lv_at hl 3 rfl) ?_
  refine lv_iconst (v := (1 : Int32)) hx hb dL_law_614 (by decide) ?_
  refine lv_iadd hx hb dL_law_615 ?_
  refine va_sld hx hb hX hbl hbA hS hi1 dL_law_616 ?_
  refine lv_aload_n hx hb dL_law_617 rfl (lv_at hl 0 rfl) ?_
  refine lv_iload_n hx hb dL_law_618 rfl (lv_at hl 3 rfl) ?_
  refine lv_iconst (v := (2 : Int32)) hx hb dL_law_619 (by decide) ?_
  refine lv_iadd hx hb dL_law_620 ?_
  refine va_sld hx hb hX hbl hbA hS hi2 dL_law_621 ?_
  refine zl_Ml hB (zz_runV (As := [.int (xs (x3 + (1 : Int32)).toNatClampNeg), .int (xs (x3 + (2 : Int32)).toNatClampNeg)]) (rest := [.long r]) hx hb hml hown zw hB.2.1 zM_L_89 (zc_X8_stands l D ca aM IM LM H.size hO) zdM_0 rfl rfl hl.1 rfl (Nat.le_of_ble_eq_true rfl) rfl rfl ⟨Nat.le_of_ble_eq_true rfl, Nat.le_of_ble_eq_true rfl⟩ dL_law_622 ⟨by show cells + 0 ≤ 600000; omega, by show slots + 0 ≤ 7302250; omega⟩) (fun r2 IM LM H locs hO hB => ?_)
  refine zz_l_eq (tgt := 1076) hx hb dL_law_625 dL_law_626 (by decide) (fun cq => ?_) (fun cq => absurd hO.1 cq)
  exact ih cells slots aC IC LC aM IM LM H locs ls hO.2 hB (by omega) (by omega) hl
def zo_17 (Rv : zz_I → zz_L → zz_I → zz_L → Prop) : Prop := ∀ (IC : zz_I) (LC : zz_L) (IM : zz_I) (LM : zz_L) (p0 : Int32) (p1 : Int32), Rv IC LC IM LM → zp_X7_begins p0 p1 (fun r IC2 LC2 => zp_X8_begins p0 p1 (fun r2 IM2 LM2 => r = r2 ∧ Rv IC2 LC2 IM2 LM2) IM LM) IC LC
set_option maxHeartbeats 4000000 in
set_option maxRecDepth 100000 in
theorem zl_case_17 {p : Program} {l : Launch} {e : Env} {s : State} {m : MethodId} {below : List Frame} {meth : Method} {c : Code} {D : va_G} {ca : Nat → ClassId} {b L : Nat} {xs : Nat → Int32} (hL : L ≤ 2048) (C0 : lw_At p s m meth c b L xs) (zw : zz_W s) {Rv : zz_I → zz_L → zz_I → zz_L → Prop} (hob : zo_17 Rv) {i cells slots : Nat} {x3 : Int32} (hi4 : 4 * i + 4 ≤ L) (ex3 : x3 = nI (4 * i)) {aC aM : Nat → Nat} {IC IM : zz_I} {LC LM : zz_L} {H : Heap} {locs : List Loc} {ls : Array Slot} (hR : Rv IC LC IM LM) (hB : zl_B D ca s aC IC LC aM IM LM H locs) (hc : cells ≤ 200 + i) (hs : slots ≤ 40000 + 14016 * i) (hl : lv_has ls 4 [(0, .ref b), (1, .ref (aC 0)), (2, .ref (aM 0)), (3, .int x3)]) (ih : ∀ (cells slots : Nat) (aC : Nat → Nat) (IC : zz_I) (LC : zz_L) (aM : Nat → Nat) (IM : zz_I) (LM : zz_L) (H : Heap) (locs : List Loc) (ls : Array Slot), Rv IC LC IM LM → zl_B D ca s aC IC LC aM IM LM H locs → cells ≤ 201 + i → slots ≤ 54016 + 14016 * i → lv_has ls 4 [(0, .ref b), (1, .ref (aC 0)), (2, .ref (aM 0)), (3, .int x3)] → W p l e room_1 s m #[Value.ref b] below meth c H locs cells slots (lw_Z below #[Value.ref b] s) (F0 m 1076 ls [])) : W p l e room_1 s m #[Value.ref b] below meth c H locs cells slots (lw_Z below #[Value.ref b] s) (F0 m 631 ls []) := by
  obtain ⟨hx, hb, hr, hml, hown, hts, hX, hbl, hlocks, hgv⟩ := C0
  have hbA : ¬ (zl_A s) b := Nat.not_le.mpr hbl
  have hS := hB.1.2.2.2
  have hiL : i ≤ 511 := by omega
  have hi1 : vp_in (x3 + (1 : Int32)) L := by rw [ex3, show nI (4 * i) + (1 : Int32) = nI (4 * i + 1) from nI_add _ _]; exact vp_in_nI (by omega) (by omega)
  have hi2 : vp_in (x3 + (2 : Int32)) L := by rw [ex3, show nI (4 * i) + (2 : Int32) = nI (4 * i + 2) from nI_add _ _]; exact vp_in_nI (by omega) (by omega)
  have hi3 : vp_in (x3 + (3 : Int32)) L := by rw [ex3, show nI (4 * i) + (3 : Int32) = nI (4 * i + 3) from nI_add _ _]; exact vp_in_nI (by omega) (by omega)
  have hO := hob IC LC IM LM (xs (x3 + (1 : Int32)).toNatClampNeg) (xs (x3 + (2 : Int32)).toNatClampNeg) hR
  refine lv_aload_n hx hb dL_law_631 rfl (lv_at hl 1 rfl) ?_
  refine lv_aload_n hx hb dL_law_632 rfl (lv_at hl 0 rfl) ?_
  refine lv_iload_n hx hb dL_law_633 rfl (lv_at hl 3 rfl) ?_
  refine lv_iconst (v := (1 : Int32)) hx hb dL_law_634 (by decide) ?_
  refine lv_iadd hx hb dL_law_635 ?_
  refine va_sld hx hb hX hbl hbA hS hi1 dL_law_636 ?_
  refine lv_aload_n hx hb dL_law_637 rfl (lv_at hl 0 rfl) ?_
  refine lv_iload_n hx hb dL_law_638 rfl (lv_at hl 3 rfl) ?_
  refine lv_iconst (v := (2 : Int32)) hx hb dL_law_639 (by decide) ?_
  refine lv_iadd hx hb dL_law_640 ?_
  refine va_sld hx hb hX hbl hbA hS hi2 dL_law_641 ?_
  refine zl_Cl hB (zz_runV (As := [.int (xs (x3 + (1 : Int32)).toNatClampNeg), .int (xs (x3 + (2 : Int32)).toNatClampNeg)]) (rest := []) hx hb hml hown zw hB.1 zM_L_90 (zc_X7_begins l D ca aC IC LC H.size hO) zdC_0 rfl rfl hl.1 rfl (Nat.le_of_ble_eq_true rfl) rfl rfl ⟨Nat.le_of_ble_eq_true rfl, Nat.le_of_ble_eq_true rfl⟩ dL_law_642 ⟨by show cells + 0 ≤ 600000; omega, by show slots + 0 ≤ 7302250; omega⟩) (fun r IC LC H locs hO hB => ?_)
  have hS := hB.1.2.2.2
  refine lv_aload_n hx hb dL_law_645 rfl (lv_at hl 2 rfl) ?_
  refine lv_aload_n hx hb dL_law_646 rfl (lv_at hl 0 rfl) ?_
  refine lv_iload_n hx hb dL_law_647 rfl (lv_at hl 3 rfl) ?_
  refine lv_iconst (v := (1 : Int32)) hx hb dL_law_648 (by decide) ?_
  refine lv_iadd hx hb dL_law_649 ?_
  refine va_sld hx hb hX hbl hbA hS hi1 dL_law_650 ?_
  refine lv_aload_n hx hb dL_law_651 rfl (lv_at hl 0 rfl) ?_
  refine lv_iload_n hx hb dL_law_652 rfl (lv_at hl 3 rfl) ?_
  refine lv_iconst (v := (2 : Int32)) hx hb dL_law_653 (by decide) ?_
  refine lv_iadd hx hb dL_law_654 ?_
  refine va_sld hx hb hX hbl hbA hS hi2 dL_law_655 ?_
  refine zl_Ml hB (zz_runV (As := [.int (xs (x3 + (1 : Int32)).toNatClampNeg), .int (xs (x3 + (2 : Int32)).toNatClampNeg)]) (rest := [.long r]) hx hb hml hown zw hB.2.1 zM_L_93 (zc_X8_begins l D ca aM IM LM H.size hO) zdM_0 rfl rfl hl.1 rfl (Nat.le_of_ble_eq_true rfl) rfl rfl ⟨Nat.le_of_ble_eq_true rfl, Nat.le_of_ble_eq_true rfl⟩ dL_law_656 ⟨by show cells + 0 ≤ 600000; omega, by show slots + 0 ≤ 7302250; omega⟩) (fun r2 IM LM H locs hO hB => ?_)
  refine zz_l_eq (tgt := 1076) hx hb dL_law_659 dL_law_660 (by decide) (fun cq => ?_) (fun cq => absurd hO.1 cq)
  exact ih cells slots aC IC LC aM IM LM H locs ls hO.2 hB (by omega) (by omega) hl
def zo_18 (Rv : zz_I → zz_L → zz_I → zz_L → Prop) : Prop := ∀ (IC : zz_I) (LC : zz_L) (IM : zz_I) (LM : zz_L) (p0 : Int32), Rv IC LC IM LM → zp_X7_sure p0 (fun r IC2 LC2 => zp_X8_sure p0 (fun r2 IM2 LM2 => r = r2 ∧ Rv IC2 LC2 IM2 LM2) IM LM) IC LC
set_option maxHeartbeats 4000000 in
set_option maxRecDepth 100000 in
theorem zl_case_18 {p : Program} {l : Launch} {e : Env} {s : State} {m : MethodId} {below : List Frame} {meth : Method} {c : Code} {D : va_G} {ca : Nat → ClassId} {b L : Nat} {xs : Nat → Int32} (hL : L ≤ 2048) (C0 : lw_At p s m meth c b L xs) (zw : zz_W s) {Rv : zz_I → zz_L → zz_I → zz_L → Prop} (hob : zo_18 Rv) {i cells slots : Nat} {x3 : Int32} (hi4 : 4 * i + 4 ≤ L) (ex3 : x3 = nI (4 * i)) {aC aM : Nat → Nat} {IC IM : zz_I} {LC LM : zz_L} {H : Heap} {locs : List Loc} {ls : Array Slot} (hR : Rv IC LC IM LM) (hB : zl_B D ca s aC IC LC aM IM LM H locs) (hc : cells ≤ 200 + i) (hs : slots ≤ 40000 + 14016 * i) (hl : lv_has ls 4 [(0, .ref b), (1, .ref (aC 0)), (2, .ref (aM 0)), (3, .int x3)]) (ih : ∀ (cells slots : Nat) (aC : Nat → Nat) (IC : zz_I) (LC : zz_L) (aM : Nat → Nat) (IM : zz_I) (LM : zz_L) (H : Heap) (locs : List Loc) (ls : Array Slot), Rv IC LC IM LM → zl_B D ca s aC IC LC aM IM LM H locs → cells ≤ 201 + i → slots ≤ 54016 + 14016 * i → lv_has ls 4 [(0, .ref b), (1, .ref (aC 0)), (2, .ref (aM 0)), (3, .int x3)] → W p l e room_1 s m #[Value.ref b] below meth c H locs cells slots (lw_Z below #[Value.ref b] s) (F0 m 1076 ls [])) : W p l e room_1 s m #[Value.ref b] below meth c H locs cells slots (lw_Z below #[Value.ref b] s) (F0 m 665 ls []) := by
  obtain ⟨hx, hb, hr, hml, hown, hts, hX, hbl, hlocks, hgv⟩ := C0
  have hbA : ¬ (zl_A s) b := Nat.not_le.mpr hbl
  have hS := hB.1.2.2.2
  have hiL : i ≤ 511 := by omega
  have hi1 : vp_in (x3 + (1 : Int32)) L := by rw [ex3, show nI (4 * i) + (1 : Int32) = nI (4 * i + 1) from nI_add _ _]; exact vp_in_nI (by omega) (by omega)
  have hi2 : vp_in (x3 + (2 : Int32)) L := by rw [ex3, show nI (4 * i) + (2 : Int32) = nI (4 * i + 2) from nI_add _ _]; exact vp_in_nI (by omega) (by omega)
  have hi3 : vp_in (x3 + (3 : Int32)) L := by rw [ex3, show nI (4 * i) + (3 : Int32) = nI (4 * i + 3) from nI_add _ _]; exact vp_in_nI (by omega) (by omega)
  have hO := hob IC LC IM LM (xs (x3 + (1 : Int32)).toNatClampNeg) hR
  refine lv_aload_n hx hb dL_law_665 rfl (lv_at hl 1 rfl) ?_
  refine lv_aload_n hx hb dL_law_666 rfl (lv_at hl 0 rfl) ?_
  refine lv_iload_n hx hb dL_law_667 rfl (lv_at hl 3 rfl) ?_
  refine lv_iconst (v := (1 : Int32)) hx hb dL_law_668 (by decide) ?_
  refine lv_iadd hx hb dL_law_669 ?_
  refine va_sld hx hb hX hbl hbA hS hi1 dL_law_670 ?_
  refine zl_Ci hB (zz_runV (As := [.int (xs (x3 + (1 : Int32)).toNatClampNeg)]) (rest := []) hx hb hml hown zw hB.1 zM_L_94 (zc_X7_sure l D ca aC IC LC H.size hO) zdC_0 rfl rfl hl.1 rfl (Nat.le_of_ble_eq_true rfl) rfl rfl ⟨Nat.le_of_ble_eq_true rfl, Nat.le_of_ble_eq_true rfl⟩ dL_law_671 ⟨by show cells + 0 ≤ 600000; omega, by show slots + 0 ≤ 7302250; omega⟩) (fun r IC LC H locs hO hB => ?_)
  have hS := hB.1.2.2.2
  refine lv_aload_n hx hb dL_law_674 rfl (lv_at hl 2 rfl) ?_
  refine lv_aload_n hx hb dL_law_675 rfl (lv_at hl 0 rfl) ?_
  refine lv_iload_n hx hb dL_law_676 rfl (lv_at hl 3 rfl) ?_
  refine lv_iconst (v := (1 : Int32)) hx hb dL_law_677 (by decide) ?_
  refine lv_iadd hx hb dL_law_678 ?_
  refine va_sld hx hb hX hbl hbA hS hi1 dL_law_679 ?_
  refine zl_Mi hB (zz_runV (As := [.int (xs (x3 + (1 : Int32)).toNatClampNeg)]) (rest := [.int r]) hx hb hml hown zw hB.2.1 zM_L_97 (zc_X8_sure l D ca aM IM LM H.size hO) zdM_0 rfl rfl hl.1 rfl (Nat.le_of_ble_eq_true rfl) rfl rfl ⟨Nat.le_of_ble_eq_true rfl, Nat.le_of_ble_eq_true rfl⟩ dL_law_680 ⟨by show cells + 0 ≤ 600000; omega, by show slots + 0 ≤ 7302250; omega⟩) (fun r2 IM LM H locs hO hB => ?_)
  refine lv_icmp_eq (tgt := 1076) hx hb dL_law_683 (by decide) (fun cq => ?_) (fun cq => absurd hO.1 cq)
  exact ih cells slots aC IC LC aM IM LM H locs ls hO.2 hB (by omega) (by omega) hl
def zo_19 (Rv : zz_I → zz_L → zz_I → zz_L → Prop) : Prop := ∀ (IC : zz_I) (LC : zz_L) (IM : zz_I) (LM : zz_L) (p0 : Int32) (p1 : Int64), Rv IC LC IM LM → zp_X7_judge p0 p1 (fun r IC2 LC2 => zp_X8_judge p0 p1 (fun r2 IM2 LM2 => r = r2 ∧ Rv IC2 LC2 IM2 LM2) IM LM) IC LC
set_option maxHeartbeats 4000000 in
set_option maxRecDepth 100000 in
theorem zl_case_19 {p : Program} {l : Launch} {e : Env} {s : State} {m : MethodId} {below : List Frame} {meth : Method} {c : Code} {D : va_G} {ca : Nat → ClassId} {b L : Nat} {xs : Nat → Int32} (hL : L ≤ 2048) (C0 : lw_At p s m meth c b L xs) (zw : zz_W s) {Rv : zz_I → zz_L → zz_I → zz_L → Prop} (hob : zo_19 Rv) {i cells slots : Nat} {x3 : Int32} (hi4 : 4 * i + 4 ≤ L) (ex3 : x3 = nI (4 * i)) {aC aM : Nat → Nat} {IC IM : zz_I} {LC LM : zz_L} {H : Heap} {locs : List Loc} {ls : Array Slot} (hR : Rv IC LC IM LM) (hB : zl_B D ca s aC IC LC aM IM LM H locs) (hc : cells ≤ 200 + i) (hs : slots ≤ 40000 + 14016 * i) (hl : lv_has ls 4 [(0, .ref b), (1, .ref (aC 0)), (2, .ref (aM 0)), (3, .int x3)]) (ih : ∀ (cells slots : Nat) (aC : Nat → Nat) (IC : zz_I) (LC : zz_L) (aM : Nat → Nat) (IM : zz_I) (LM : zz_L) (H : Heap) (locs : List Loc) (ls : Array Slot), Rv IC LC IM LM → zl_B D ca s aC IC LC aM IM LM H locs → cells ≤ 201 + i → slots ≤ 54016 + 14016 * i → lv_has ls 4 [(0, .ref b), (1, .ref (aC 0)), (2, .ref (aM 0)), (3, .int x3)] → W p l e room_1 s m #[Value.ref b] below meth c H locs cells slots (lw_Z below #[Value.ref b] s) (F0 m 1076 ls [])) : W p l e room_1 s m #[Value.ref b] below meth c H locs cells slots (lw_Z below #[Value.ref b] s) (F0 m 688 ls []) := by
  obtain ⟨hx, hb, hr, hml, hown, hts, hX, hbl, hlocks, hgv⟩ := C0
  have hbA : ¬ (zl_A s) b := Nat.not_le.mpr hbl
  have hS := hB.1.2.2.2
  have hiL : i ≤ 511 := by omega
  have hi1 : vp_in (x3 + (1 : Int32)) L := by rw [ex3, show nI (4 * i) + (1 : Int32) = nI (4 * i + 1) from nI_add _ _]; exact vp_in_nI (by omega) (by omega)
  have hi2 : vp_in (x3 + (2 : Int32)) L := by rw [ex3, show nI (4 * i) + (2 : Int32) = nI (4 * i + 2) from nI_add _ _]; exact vp_in_nI (by omega) (by omega)
  have hi3 : vp_in (x3 + (3 : Int32)) L := by rw [ex3, show nI (4 * i) + (3 : Int32) = nI (4 * i + 3) from nI_add _ _]; exact vp_in_nI (by omega) (by omega)
  have hO := hob IC LC IM LM (xs (x3 + (1 : Int32)).toNatClampNeg) ((((xs (x3 + (2 : Int32)).toNatClampNeg).toInt64) <<< ((32 : Int32).toInt64 &&& 63)) ||| (((xs (x3 + (3 : Int32)).toNatClampNeg).toInt64) &&& (4294967295 : Int64))) hR
  refine lv_aload_n hx hb dL_law_688 rfl (lv_at hl 1 rfl) ?_
  refine lv_aload_n hx hb dL_law_689 rfl (lv_at hl 0 rfl) ?_
  refine lv_iload_n hx hb dL_law_690 rfl (lv_at hl 3 rfl) ?_
  refine lv_iconst (v := (1 : Int32)) hx hb dL_law_691 (by decide) ?_
  refine lv_iadd hx hb dL_law_692 ?_
  refine va_sld hx hb hX hbl hbA hS hi1 dL_law_693 ?_
  refine lv_aload_n hx hb dL_law_694 rfl (lv_at hl 0 rfl) ?_
  refine lv_iload_n hx hb dL_law_695 rfl (lv_at hl 3 rfl) ?_
  refine lv_iconst (v := (2 : Int32)) hx hb dL_law_696 (by decide) ?_
  refine lv_iadd hx hb dL_law_697 ?_
  refine va_sld hx hb hX hbl hbA hS hi2 dL_law_698 ?_
  refine lv_i2l (v := (xs (x3 + (2 : Int32)).toNatClampNeg).toInt64) hx hb dL_law_699 rfl ?_
  refine lv_bipush (v := (32 : Int32)) hx hb dL_law_700 (by decide) ?_
  refine lv_lshl (v := ((xs (x3 + (2 : Int32)).toNatClampNeg).toInt64) <<< ((32 : Int32).toInt64 &&& 63)) hx hb dL_law_702 rfl ?_
  refine lv_aload_n hx hb dL_law_703 rfl (lv_at hl 0 rfl) ?_
  refine lv_iload_n hx hb dL_law_704 rfl (lv_at hl 3 rfl) ?_
  refine lv_iconst (v := (3 : Int32)) hx hb dL_law_705 (by decide) ?_
  refine lv_iadd hx hb dL_law_706 ?_
  refine va_sld hx hb hX hbl hbA hS hi3 dL_law_707 ?_
  refine lv_i2l (v := (xs (x3 + (3 : Int32)).toNatClampNeg).toInt64) hx hb dL_law_708 rfl ?_
  refine lv_ldc2 (v := (4294967295 : Int64)) hx hb hown (zz_W_use zw zk_L_78 rfl) dL_law_709 ?_
  refine lv_land hx hb dL_law_712 ?_
  refine lv_lor hx hb dL_law_713 ?_
  refine zl_Ci hB (zz_runV (As := [.int (xs (x3 + (1 : Int32)).toNatClampNeg), .long ((((xs (x3 + (2 : Int32)).toNatClampNeg).toInt64) <<< ((32 : Int32).toInt64 &&& 63)) ||| (((xs (x3 + (3 : Int32)).toNatClampNeg).toInt64) &&& (4294967295 : Int64)))]) (rest := []) hx hb hml hown zw hB.1 zM_L_98 (zc_X7_judge l D ca aC IC LC H.size hO) zdC_0 rfl rfl hl.1 rfl (Nat.le_of_ble_eq_true rfl) rfl rfl ⟨Nat.le_of_ble_eq_true rfl, Nat.le_of_ble_eq_true rfl⟩ dL_law_714 ⟨by show cells + 0 ≤ 600000; omega, by show slots + 0 ≤ 7302250; omega⟩) (fun r IC LC H locs hO hB => ?_)
  have hS := hB.1.2.2.2
  refine lv_aload_n hx hb dL_law_717 rfl (lv_at hl 2 rfl) ?_
  refine lv_aload_n hx hb dL_law_718 rfl (lv_at hl 0 rfl) ?_
  refine lv_iload_n hx hb dL_law_719 rfl (lv_at hl 3 rfl) ?_
  refine lv_iconst (v := (1 : Int32)) hx hb dL_law_720 (by decide) ?_
  refine lv_iadd hx hb dL_law_721 ?_
  refine va_sld hx hb hX hbl hbA hS hi1 dL_law_722 ?_
  refine lv_aload_n hx hb dL_law_723 rfl (lv_at hl 0 rfl) ?_
  refine lv_iload_n hx hb dL_law_724 rfl (lv_at hl 3 rfl) ?_
  refine lv_iconst (v := (2 : Int32)) hx hb dL_law_725 (by decide) ?_
  refine lv_iadd hx hb dL_law_726 ?_
  refine va_sld hx hb hX hbl hbA hS hi2 dL_law_727 ?_
  refine lv_i2l (v := (xs (x3 + (2 : Int32)).toNatClampNeg).toInt64) hx hb dL_law_728 rfl ?_
  refine lv_bipush (v := (32 : Int32)) hx hb dL_law_729 (by decide) ?_
  refine lv_lshl (v := ((xs (x3 + (2 : Int32)).toNatClampNeg).toInt64) <<< ((32 : Int32).toInt64 &&& 63)) hx hb dL_law_731 rfl ?_
  refine lv_aload_n hx hb dL_law_732 rfl (lv_at hl 0 rfl) ?_
  refine lv_iload_n hx hb dL_law_733 rfl (lv_at hl 3 rfl) ?_
  refine lv_iconst (v := (3 : Int32)) hx hb dL_law_734 (by decide) ?_
  refine lv_iadd hx hb dL_law_735 ?_
  refine va_sld hx hb hX hbl hbA hS hi3 dL_law_736 ?_
  refine lv_i2l (v := (xs (x3 + (3 : Int32)).toNatClampNeg).toInt64) hx hb dL_law_737 rfl ?_
  refine lv_ldc2 (v := (4294967295 : Int64)) hx hb hown (zz_W_use zw zk_L_78 rfl) dL_law_738 ?_
  refine lv_land hx hb dL_law_741 ?_
  refine lv_lor hx hb dL_law_742 ?_
  refine zl_Mi hB (zz_runV (As := [.int (xs (x3 + (1 : Int32)).toNatClampNeg), .long ((((xs (x3 + (2 : Int32)).toNatClampNeg).toInt64) <<< ((32 : Int32).toInt64 &&& 63)) ||| (((xs (x3 + (3 : Int32)).toNatClampNeg).toInt64) &&& (4294967295 : Int64)))]) (rest := [.int r]) hx hb hml hown zw hB.2.1 zM_L_102 (zc_X8_judge l D ca aM IM LM H.size hO) zdM_0 rfl rfl hl.1 rfl (Nat.le_of_ble_eq_true rfl) rfl rfl ⟨Nat.le_of_ble_eq_true rfl, Nat.le_of_ble_eq_true rfl⟩ dL_law_743 ⟨by show cells + 0 ≤ 600000; omega, by show slots + 0 ≤ 7302250; omega⟩) (fun r2 IM LM H locs hO hB => ?_)
  refine lv_icmp_eq (tgt := 1076) hx hb dL_law_746 (by decide) (fun cq => ?_) (fun cq => absurd hO.1 cq)
  exact ih cells slots aC IC LC aM IM LM H locs ls hO.2 hB (by omega) (by omega) hl
def zo_20 (Rv : zz_I → zz_L → zz_I → zz_L → Prop) : Prop := ∀ (IC : zz_I) (LC : zz_L) (IM : zz_I) (LM : zz_L) (p0 : Int32) (p1 : Int32) (p2 : Int32), Rv IC LC IM LM → zp_X7_see p0 p1 p2 (fun r IC2 LC2 => zp_X8_see p0 p1 p2 (fun r2 IM2 LM2 => r = r2 ∧ Rv IC2 LC2 IM2 LM2) IM LM) IC LC
set_option maxHeartbeats 4000000 in
set_option maxRecDepth 100000 in
theorem zl_case_20 {p : Program} {l : Launch} {e : Env} {s : State} {m : MethodId} {below : List Frame} {meth : Method} {c : Code} {D : va_G} {ca : Nat → ClassId} {b L : Nat} {xs : Nat → Int32} (hL : L ≤ 2048) (C0 : lw_At p s m meth c b L xs) (zw : zz_W s) {Rv : zz_I → zz_L → zz_I → zz_L → Prop} (hob : zo_20 Rv) {i cells slots : Nat} {x3 : Int32} (hi4 : 4 * i + 4 ≤ L) (ex3 : x3 = nI (4 * i)) {aC aM : Nat → Nat} {IC IM : zz_I} {LC LM : zz_L} {H : Heap} {locs : List Loc} {ls : Array Slot} (hR : Rv IC LC IM LM) (hB : zl_B D ca s aC IC LC aM IM LM H locs) (hc : cells ≤ 200 + i) (hs : slots ≤ 40000 + 14016 * i) (hl : lv_has ls 4 [(0, .ref b), (1, .ref (aC 0)), (2, .ref (aM 0)), (3, .int x3)]) (ih : ∀ (cells slots : Nat) (aC : Nat → Nat) (IC : zz_I) (LC : zz_L) (aM : Nat → Nat) (IM : zz_I) (LM : zz_L) (H : Heap) (locs : List Loc) (ls : Array Slot), Rv IC LC IM LM → zl_B D ca s aC IC LC aM IM LM H locs → cells ≤ 201 + i → slots ≤ 54016 + 14016 * i → lv_has ls 4 [(0, .ref b), (1, .ref (aC 0)), (2, .ref (aM 0)), (3, .int x3)] → W p l e room_1 s m #[Value.ref b] below meth c H locs cells slots (lw_Z below #[Value.ref b] s) (F0 m 1076 ls [])) : W p l e room_1 s m #[Value.ref b] below meth c H locs cells slots (lw_Z below #[Value.ref b] s) (F0 m 751 ls []) := by
  obtain ⟨hx, hb, hr, hml, hown, hts, hX, hbl, hlocks, hgv⟩ := C0
  have hbA : ¬ (zl_A s) b := Nat.not_le.mpr hbl
  have hS := hB.1.2.2.2
  have hiL : i ≤ 511 := by omega
  have hi1 : vp_in (x3 + (1 : Int32)) L := by rw [ex3, show nI (4 * i) + (1 : Int32) = nI (4 * i + 1) from nI_add _ _]; exact vp_in_nI (by omega) (by omega)
  have hi2 : vp_in (x3 + (2 : Int32)) L := by rw [ex3, show nI (4 * i) + (2 : Int32) = nI (4 * i + 2) from nI_add _ _]; exact vp_in_nI (by omega) (by omega)
  have hi3 : vp_in (x3 + (3 : Int32)) L := by rw [ex3, show nI (4 * i) + (3 : Int32) = nI (4 * i + 3) from nI_add _ _]; exact vp_in_nI (by omega) (by omega)
  have hO := hob IC LC IM LM (xs (x3 + (1 : Int32)).toNatClampNeg) (xs (x3 + (2 : Int32)).toNatClampNeg) (xs (x3 + (3 : Int32)).toNatClampNeg) hR
  refine lv_aload_n hx hb dL_law_751 rfl (lv_at hl 1 rfl) ?_
  refine lv_aload_n hx hb dL_law_752 rfl (lv_at hl 0 rfl) ?_
  refine lv_iload_n hx hb dL_law_753 rfl (lv_at hl 3 rfl) ?_
  refine lv_iconst (v := (1 : Int32)) hx hb dL_law_754 (by decide) ?_
  refine lv_iadd hx hb dL_law_755 ?_
  refine va_sld hx hb hX hbl hbA hS hi1 dL_law_756 ?_
  refine lv_aload_n hx hb dL_law_757 rfl (lv_at hl 0 rfl) ?_
  refine lv_iload_n hx hb dL_law_758 rfl (lv_at hl 3 rfl) ?_
  refine lv_iconst (v := (2 : Int32)) hx hb dL_law_759 (by decide) ?_
  refine lv_iadd hx hb dL_law_760 ?_
  refine va_sld hx hb hX hbl hbA hS hi2 dL_law_761 ?_
  refine lv_aload_n hx hb dL_law_762 rfl (lv_at hl 0 rfl) ?_
  refine lv_iload_n hx hb dL_law_763 rfl (lv_at hl 3 rfl) ?_
  refine lv_iconst (v := (3 : Int32)) hx hb dL_law_764 (by decide) ?_
  refine lv_iadd hx hb dL_law_765 ?_
  refine va_sld hx hb hX hbl hbA hS hi3 dL_law_766 ?_
  refine zl_Ci hB (zz_runV (As := [.int (xs (x3 + (1 : Int32)).toNatClampNeg), .int (xs (x3 + (2 : Int32)).toNatClampNeg), .int (xs (x3 + (3 : Int32)).toNatClampNeg)]) (rest := []) hx hb hml hown zw hB.1 zM_L_103 (zc_X7_see l D ca aC IC LC H.size hO) zdC_0 rfl rfl hl.1 rfl (Nat.le_of_ble_eq_true rfl) rfl rfl ⟨Nat.le_of_ble_eq_true rfl, Nat.le_of_ble_eq_true rfl⟩ dL_law_767 ⟨by show cells + 0 ≤ 600000; omega, by show slots + 0 ≤ 7302250; omega⟩) (fun r IC LC H locs hO hB => ?_)
  have hS := hB.1.2.2.2
  refine lv_aload_n hx hb dL_law_770 rfl (lv_at hl 2 rfl) ?_
  refine lv_aload_n hx hb dL_law_771 rfl (lv_at hl 0 rfl) ?_
  refine lv_iload_n hx hb dL_law_772 rfl (lv_at hl 3 rfl) ?_
  refine lv_iconst (v := (1 : Int32)) hx hb dL_law_773 (by decide) ?_
  refine lv_iadd hx hb dL_law_774 ?_
  refine va_sld hx hb hX hbl hbA hS hi1 dL_law_775 ?_
  refine lv_aload_n hx hb dL_law_776 rfl (lv_at hl 0 rfl) ?_
  refine lv_iload_n hx hb dL_law_777 rfl (lv_at hl 3 rfl) ?_
  refine lv_iconst (v := (2 : Int32)) hx hb dL_law_778 (by decide) ?_
  refine lv_iadd hx hb dL_law_779 ?_
  refine va_sld hx hb hX hbl hbA hS hi2 dL_law_780 ?_
  refine lv_aload_n hx hb dL_law_781 rfl (lv_at hl 0 rfl) ?_
  refine lv_iload_n hx hb dL_law_782 rfl (lv_at hl 3 rfl) ?_
  refine lv_iconst (v := (3 : Int32)) hx hb dL_law_783 (by decide) ?_
  refine lv_iadd hx hb dL_law_784 ?_
  refine va_sld hx hb hX hbl hbA hS hi3 dL_law_785 ?_
  refine zl_Mi hB (zz_runV (As := [.int (xs (x3 + (1 : Int32)).toNatClampNeg), .int (xs (x3 + (2 : Int32)).toNatClampNeg), .int (xs (x3 + (3 : Int32)).toNatClampNeg)]) (rest := [.int r]) hx hb hml hown zw hB.2.1 zM_L_106 (zc_X8_see l D ca aM IM LM H.size hO) zdM_0 rfl rfl hl.1 rfl (Nat.le_of_ble_eq_true rfl) rfl rfl ⟨Nat.le_of_ble_eq_true rfl, Nat.le_of_ble_eq_true rfl⟩ dL_law_786 ⟨by show cells + 0 ≤ 600000; omega, by show slots + 0 ≤ 7302250; omega⟩) (fun r2 IM LM H locs hO hB => ?_)
  refine lv_icmp_eq (tgt := 1076) hx hb dL_law_789 (by decide) (fun cq => ?_) (fun cq => absurd hO.1 cq)
  exact ih cells slots aC IC LC aM IM LM H locs ls hO.2 hB (by omega) (by omega) hl
def zo_21 (Rv : zz_I → zz_L → zz_I → zz_L → Prop) : Prop := ∀ (IC : zz_I) (LC : zz_L) (IM : zz_I) (LM : zz_L), Rv IC LC IM LM → zp_X7_unsee  (fun r IC2 LC2 => zp_X8_unsee  (fun r2 IM2 LM2 => r = r2 ∧ Rv IC2 LC2 IM2 LM2) IM LM) IC LC
set_option maxHeartbeats 4000000 in
set_option maxRecDepth 100000 in
theorem zl_case_21 {p : Program} {l : Launch} {e : Env} {s : State} {m : MethodId} {below : List Frame} {meth : Method} {c : Code} {D : va_G} {ca : Nat → ClassId} {b L : Nat} {xs : Nat → Int32} (hL : L ≤ 2048) (C0 : lw_At p s m meth c b L xs) (zw : zz_W s) {Rv : zz_I → zz_L → zz_I → zz_L → Prop} (hob : zo_21 Rv) {i cells slots : Nat} {x3 : Int32} (hi4 : 4 * i + 4 ≤ L) (ex3 : x3 = nI (4 * i)) {aC aM : Nat → Nat} {IC IM : zz_I} {LC LM : zz_L} {H : Heap} {locs : List Loc} {ls : Array Slot} (hR : Rv IC LC IM LM) (hB : zl_B D ca s aC IC LC aM IM LM H locs) (hc : cells ≤ 200 + i) (hs : slots ≤ 40000 + 14016 * i) (hl : lv_has ls 4 [(0, .ref b), (1, .ref (aC 0)), (2, .ref (aM 0)), (3, .int x3)]) (ih : ∀ (cells slots : Nat) (aC : Nat → Nat) (IC : zz_I) (LC : zz_L) (aM : Nat → Nat) (IM : zz_I) (LM : zz_L) (H : Heap) (locs : List Loc) (ls : Array Slot), Rv IC LC IM LM → zl_B D ca s aC IC LC aM IM LM H locs → cells ≤ 201 + i → slots ≤ 54016 + 14016 * i → lv_has ls 4 [(0, .ref b), (1, .ref (aC 0)), (2, .ref (aM 0)), (3, .int x3)] → W p l e room_1 s m #[Value.ref b] below meth c H locs cells slots (lw_Z below #[Value.ref b] s) (F0 m 1076 ls [])) : W p l e room_1 s m #[Value.ref b] below meth c H locs cells slots (lw_Z below #[Value.ref b] s) (F0 m 794 ls []) := by
  obtain ⟨hx, hb, hr, hml, hown, hts, hX, hbl, hlocks, hgv⟩ := C0
  have hbA : ¬ (zl_A s) b := Nat.not_le.mpr hbl
  have hS := hB.1.2.2.2
  have hiL : i ≤ 511 := by omega
  have hi1 : vp_in (x3 + (1 : Int32)) L := by rw [ex3, show nI (4 * i) + (1 : Int32) = nI (4 * i + 1) from nI_add _ _]; exact vp_in_nI (by omega) (by omega)
  have hi2 : vp_in (x3 + (2 : Int32)) L := by rw [ex3, show nI (4 * i) + (2 : Int32) = nI (4 * i + 2) from nI_add _ _]; exact vp_in_nI (by omega) (by omega)
  have hi3 : vp_in (x3 + (3 : Int32)) L := by rw [ex3, show nI (4 * i) + (3 : Int32) = nI (4 * i + 3) from nI_add _ _]; exact vp_in_nI (by omega) (by omega)
  have hO := hob IC LC IM LM  hR
  refine lv_aload_n hx hb dL_law_794 rfl (lv_at hl 1 rfl) ?_
  refine zl_Ci hB (zz_runV (As := []) (rest := []) hx hb hml hown zw hB.1 zM_L_107 (zc_X7_unsee l D ca aC IC LC H.size hO) zdC_0 rfl rfl hl.1 rfl (Nat.le_of_ble_eq_true rfl) rfl rfl ⟨Nat.le_of_ble_eq_true rfl, Nat.le_of_ble_eq_true rfl⟩ dL_law_795 ⟨by show cells + 0 ≤ 600000; omega, by show slots + 0 ≤ 7302250; omega⟩) (fun r IC LC H locs hO hB => ?_)
  have hS := hB.1.2.2.2
  refine lv_aload_n hx hb dL_law_798 rfl (lv_at hl 2 rfl) ?_
  refine zl_Mi hB (zz_runV (As := []) (rest := [.int r]) hx hb hml hown zw hB.2.1 zM_L_110 (zc_X8_unsee l D ca aM IM LM H.size hO) zdM_0 rfl rfl hl.1 rfl (Nat.le_of_ble_eq_true rfl) rfl rfl ⟨Nat.le_of_ble_eq_true rfl, Nat.le_of_ble_eq_true rfl⟩ dL_law_799 ⟨by show cells + 0 ≤ 600000; omega, by show slots + 0 ≤ 7302250; omega⟩) (fun r2 IM LM H locs hO hB => ?_)
  refine lv_icmp_eq (tgt := 1076) hx hb dL_law_802 (by decide) (fun cq => ?_) (fun cq => absurd hO.1 cq)
  exact ih cells slots aC IC LC aM IM LM H locs ls hO.2 hB (by omega) (by omega) hl
def zo_22 (Rv : zz_I → zz_L → zz_I → zz_L → Prop) : Prop := ∀ (IC : zz_I) (LC : zz_L) (IM : zz_I) (LM : zz_L) (p0 : Int32), Rv IC LC IM LM → zp_X7_whichn p0 (fun r IC2 LC2 => zp_X8_which p0 (fun r2 IM2 LM2 => r = r2 ∧ Rv IC2 LC2 IM2 LM2) IM LM) IC LC
set_option maxHeartbeats 4000000 in
set_option maxRecDepth 100000 in
theorem zl_case_22 {p : Program} {l : Launch} {e : Env} {s : State} {m : MethodId} {below : List Frame} {meth : Method} {c : Code} {D : va_G} {ca : Nat → ClassId} {b L : Nat} {xs : Nat → Int32} (hL : L ≤ 2048) (C0 : lw_At p s m meth c b L xs) (zw : zz_W s) {Rv : zz_I → zz_L → zz_I → zz_L → Prop} (hob : zo_22 Rv) {i cells slots : Nat} {x3 : Int32} (hi4 : 4 * i + 4 ≤ L) (ex3 : x3 = nI (4 * i)) {aC aM : Nat → Nat} {IC IM : zz_I} {LC LM : zz_L} {H : Heap} {locs : List Loc} {ls : Array Slot} (hR : Rv IC LC IM LM) (hB : zl_B D ca s aC IC LC aM IM LM H locs) (hc : cells ≤ 200 + i) (hs : slots ≤ 40000 + 14016 * i) (hl : lv_has ls 4 [(0, .ref b), (1, .ref (aC 0)), (2, .ref (aM 0)), (3, .int x3)]) (ih : ∀ (cells slots : Nat) (aC : Nat → Nat) (IC : zz_I) (LC : zz_L) (aM : Nat → Nat) (IM : zz_I) (LM : zz_L) (H : Heap) (locs : List Loc) (ls : Array Slot), Rv IC LC IM LM → zl_B D ca s aC IC LC aM IM LM H locs → cells ≤ 201 + i → slots ≤ 54016 + 14016 * i → lv_has ls 4 [(0, .ref b), (1, .ref (aC 0)), (2, .ref (aM 0)), (3, .int x3)] → W p l e room_1 s m #[Value.ref b] below meth c H locs cells slots (lw_Z below #[Value.ref b] s) (F0 m 1076 ls [])) : W p l e room_1 s m #[Value.ref b] below meth c H locs cells slots (lw_Z below #[Value.ref b] s) (F0 m 807 ls []) := by
  obtain ⟨hx, hb, hr, hml, hown, hts, hX, hbl, hlocks, hgv⟩ := C0
  have hbA : ¬ (zl_A s) b := Nat.not_le.mpr hbl
  have hS := hB.1.2.2.2
  have hiL : i ≤ 511 := by omega
  have hi1 : vp_in (x3 + (1 : Int32)) L := by rw [ex3, show nI (4 * i) + (1 : Int32) = nI (4 * i + 1) from nI_add _ _]; exact vp_in_nI (by omega) (by omega)
  have hi2 : vp_in (x3 + (2 : Int32)) L := by rw [ex3, show nI (4 * i) + (2 : Int32) = nI (4 * i + 2) from nI_add _ _]; exact vp_in_nI (by omega) (by omega)
  have hi3 : vp_in (x3 + (3 : Int32)) L := by rw [ex3, show nI (4 * i) + (3 : Int32) = nI (4 * i + 3) from nI_add _ _]; exact vp_in_nI (by omega) (by omega)
  have hO := hob IC LC IM LM (xs (x3 + (1 : Int32)).toNatClampNeg) hR
  refine lv_aload_n hx hb dL_law_807 rfl (lv_at hl 1 rfl) ?_
  refine lv_aload_n hx hb dL_law_808 rfl (lv_at hl 0 rfl) ?_
  refine lv_iload_n hx hb dL_law_809 rfl (lv_at hl 3 rfl) ?_
  refine lv_iconst (v := (1 : Int32)) hx hb dL_law_810 (by decide) ?_
  refine lv_iadd hx hb dL_law_811 ?_
  refine va_sld hx hb hX hbl hbA hS hi1 dL_law_812 ?_
  refine zl_ClN hB (zz_runV (As := [.int (xs (x3 + (1 : Int32)).toNatClampNeg)]) (rest := []) hx hb hml hown zw hB.1 zM_L_111 (zc_X7_whichn l D ca aC IC LC H.size hO) zdC_0 rfl rfl hl.1 rfl (Nat.le_of_ble_eq_true rfl) rfl rfl ⟨Nat.le_of_ble_eq_true rfl, Nat.le_of_ble_eq_true rfl⟩ dL_law_813 ⟨by show cells + 1 ≤ 600000; omega, by show slots + 14016 ≤ 7302250; omega⟩) (fun r a1 IC LC H locs hO ha1 hB => ?_)
  rw [← ha1] at hl
  have hS := hB.1.2.2.2
  refine lv_aload_n hx hb dL_law_816 rfl (lv_at hl 2 rfl) ?_
  refine lv_aload_n hx hb dL_law_817 rfl (lv_at hl 0 rfl) ?_
  refine lv_iload_n hx hb dL_law_818 rfl (lv_at hl 3 rfl) ?_
  refine lv_iconst (v := (1 : Int32)) hx hb dL_law_819 (by decide) ?_
  refine lv_iadd hx hb dL_law_820 ?_
  refine va_sld hx hb hX hbl hbA hS hi1 dL_law_821 ?_
  refine zl_Ml hB (zz_runV (As := [.int (xs (x3 + (1 : Int32)).toNatClampNeg)]) (rest := [.long r]) hx hb hml hown zw hB.2.1 zM_L_115 (zc_X8_which l D ca aM IM LM H.size hO) zdM_0 rfl rfl hl.1 rfl (Nat.le_of_ble_eq_true rfl) rfl rfl ⟨Nat.le_of_ble_eq_true rfl, Nat.le_of_ble_eq_true rfl⟩ dL_law_822 ⟨by show cells + 1 + 0 ≤ 600000; omega, by show slots + 14016 + 0 ≤ 7302250; omega⟩) (fun r2 IM LM H locs hO hB => ?_)
  refine zz_l_eq (tgt := 1076) hx hb dL_law_825 dL_law_826 (by decide) (fun cq => ?_) (fun cq => absurd hO.1 cq)
  exact ih (cells + 1) (slots + 14016) a1 IC LC aM IM LM H locs ls hO.2 hB (by omega) (by omega) hl
def zo_23 (Rv : zz_I → zz_L → zz_I → zz_L → Prop) : Prop := ∀ (IC : zz_I) (LC : zz_L) (IM : zz_I) (LM : zz_L) (p0 : Int32), Rv IC LC IM LM → (zp_X7_share p0 (0 : Int32) (fun r IC2 LC2 => zp_X8_share p0 (0 : Int32) (fun r2 IM2 LM2 => r = r2 ∧ Rv IC2 LC2 IM2 LM2) IM LM) IC LC) ∧ (zp_X7_share p0 (1 : Int32) (fun r IC2 LC2 => zp_X8_share p0 (1 : Int32) (fun r2 IM2 LM2 => r = r2 ∧ Rv IC2 LC2 IM2 LM2) IM LM) IC LC)
set_option maxHeartbeats 4000000 in
set_option maxRecDepth 100000 in
theorem zl_case_23 {p : Program} {l : Launch} {e : Env} {s : State} {m : MethodId} {below : List Frame} {meth : Method} {c : Code} {D : va_G} {ca : Nat → ClassId} {b L : Nat} {xs : Nat → Int32} (hL : L ≤ 2048) (C0 : lw_At p s m meth c b L xs) (zw : zz_W s) (hF : zz_St (zl_A s) s) {Rv : zz_I → zz_L → zz_I → zz_L → Prop} (hob : zo_23 Rv) {i cells slots : Nat} {x3 : Int32} (hi4 : 4 * i + 4 ≤ L) (ex3 : x3 = nI (4 * i)) {aC aM : Nat → Nat} {IC IM : zz_I} {LC LM : zz_L} {H : Heap} {locs : List Loc} {ls : Array Slot} (hR : Rv IC LC IM LM) (hB : zl_B D ca s aC IC LC aM IM LM H locs) (hc : cells ≤ 200 + i) (hs : slots ≤ 40000 + 14016 * i) (hl : lv_has ls 4 [(0, .ref b), (1, .ref (aC 0)), (2, .ref (aM 0)), (3, .int x3)]) (ih : ∀ (cells slots : Nat) (aC : Nat → Nat) (IC : zz_I) (LC : zz_L) (aM : Nat → Nat) (IM : zz_I) (LM : zz_L) (H : Heap) (locs : List Loc) (ls : Array Slot), Rv IC LC IM LM → zl_B D ca s aC IC LC aM IM LM H locs → cells ≤ 201 + i → slots ≤ 54016 + 14016 * i → lv_has ls 4 [(0, .ref b), (1, .ref (aC 0)), (2, .ref (aM 0)), (3, .int x3)] → W p l e room_1 s m #[Value.ref b] below meth c H locs cells slots (lw_Z below #[Value.ref b] s) (F0 m 1076 ls [])) : W p l e room_1 s m #[Value.ref b] below meth c H locs cells slots (lw_Z below #[Value.ref b] s) (F0 m 831 ls []) := by
  obtain ⟨hx, hb, hr, hml, hown, hts, hX, hbl, hlocks, hgv⟩ := C0
  have hbA : ¬ (zl_A s) b := Nat.not_le.mpr hbl
  have hS := hB.1.2.2.2
  have hiL : i ≤ 511 := by omega
  have hi1 : vp_in (x3 + (1 : Int32)) L := by rw [ex3, show nI (4 * i) + (1 : Int32) = nI (4 * i + 1) from nI_add _ _]; exact vp_in_nI (by omega) (by omega)
  have hi2 : vp_in (x3 + (2 : Int32)) L := by rw [ex3, show nI (4 * i) + (2 : Int32) = nI (4 * i + 2) from nI_add _ _]; exact vp_in_nI (by omega) (by omega)
  have hi3 : vp_in (x3 + (3 : Int32)) L := by rw [ex3, show nI (4 * i) + (3 : Int32) = nI (4 * i + 3) from nI_add _ _]; exact vp_in_nI (by omega) (by omega)
  have hO := hob IC LC IM LM (xs (x3 + (1 : Int32)).toNatClampNeg) hR
  refine lv_aload_n hx hb dL_law_831 rfl (lv_at hl 1 rfl) ?_
  refine lv_aload_n hx hb dL_law_832 rfl (lv_at hl 0 rfl) ?_
  refine lv_iload_n hx hb dL_law_833 rfl (lv_at hl 3 rfl) ?_
  refine lv_iconst (v := (1 : Int32)) hx hb dL_law_834 (by decide) ?_
  refine lv_iadd hx hb dL_law_835 ?_
  refine va_sld hx hb hX hbl hbA hS hi1 dL_law_836 ?_
  refine lv_aload_n hx hb dL_law_837 rfl (lv_at hl 0 rfl) ?_
  refine lv_iload_n hx hb dL_law_838 rfl (lv_at hl 3 rfl) ?_
  refine lv_iconst (v := (2 : Int32)) hx hb dL_law_839 (by decide) ?_
  refine lv_iadd hx hb dL_law_840 ?_
  refine va_sld hx hb hX hbl hbA hS hi2 dL_law_841 ?_
  refine lv_if_eq (tgt := 849) hx hb dL_law_842 (by decide) (fun cz => ?_) (fun cz => ?_)
  · have hO := hO.1
    refine lv_iconst (v := (0 : Int32)) hx hb dL_law_849 (by decide) ?_
    refine zl_Cl hB (zz_runVF (As := [.int (xs (x3 + (1 : Int32)).toNatClampNeg), .int (0 : Int32)]) (rest := []) hx hb hml hown zw hB.1 (fun _ h => h) hF zM_L_116 (zc_X7_share l D ca aC IC LC H.size hO) zdC_0 rfl rfl hl.1 rfl (Nat.le_of_ble_eq_true rfl) rfl rfl ⟨Nat.le_of_ble_eq_true rfl, Nat.le_of_ble_eq_true rfl⟩ dL_law_850 ⟨by show cells + 0 ≤ 600000; omega, by show slots + 0 ≤ 7302250; omega⟩) (fun r IC LC H locs hO hB => ?_)
    have hS := hB.1.2.2.2
    refine lv_aload_n hx hb dL_law_853 rfl (lv_at hl 2 rfl) ?_
    refine lv_aload_n hx hb dL_law_854 rfl (lv_at hl 0 rfl) ?_
    refine lv_iload_n hx hb dL_law_855 rfl (lv_at hl 3 rfl) ?_
    refine lv_iconst (v := (1 : Int32)) hx hb dL_law_856 (by decide) ?_
    refine lv_iadd hx hb dL_law_857 ?_
    refine va_sld hx hb hX hbl hbA hS hi1 dL_law_858 ?_
    refine lv_aload_n hx hb dL_law_859 rfl (lv_at hl 0 rfl) ?_
    refine lv_iload_n hx hb dL_law_860 rfl (lv_at hl 3 rfl) ?_
    refine lv_iconst (v := (2 : Int32)) hx hb dL_law_861 (by decide) ?_
    refine lv_iadd hx hb dL_law_862 ?_
    refine va_sld hx hb hX hbl hbA hS hi2 dL_law_863 ?_
    refine lv_if_eq (tgt := 871) hx hb dL_law_864 (by decide) (fun cy => ?_) (fun cy => ?_)
    · skip
      refine lv_iconst (v := (0 : Int32)) hx hb dL_law_871 (by decide) ?_
      refine zl_Ml hB (zz_runV (As := [.int (xs (x3 + (1 : Int32)).toNatClampNeg), .int (0 : Int32)]) (rest := [.long r]) hx hb hml hown zw hB.2.1 zM_L_120 (zc_X8_share l D ca aM IM LM H.size hO) zdM_0 rfl rfl hl.1 rfl (Nat.le_of_ble_eq_true rfl) rfl rfl ⟨Nat.le_of_ble_eq_true rfl, Nat.le_of_ble_eq_true rfl⟩ dL_law_872 ⟨by show cells + 0 ≤ 600000; omega, by show slots + 0 ≤ 7302250; omega⟩) (fun r2 IM LM H locs hO hB => ?_)
      refine zz_l_eq (tgt := 1076) hx hb dL_law_875 dL_law_876 (by decide) (fun cq => ?_) (fun cq => absurd hO.1 cq)
      exact ih cells slots aC IC LC aM IM LM H locs ls hO.2 hB (by omega) (by omega) hl
    · exact absurd cz cy
  · have hO := hO.2
    refine lv_iconst (v := (1 : Int32)) hx hb dL_law_845 (by decide) ?_
    refine lv_goto (tgt := 850) hx hb dL_law_846 (by decide) ?_
    refine zl_Cl hB (zz_runVF (As := [.int (xs (x3 + (1 : Int32)).toNatClampNeg), .int (1 : Int32)]) (rest := []) hx hb hml hown zw hB.1 (fun _ h => h) hF zM_L_116 (zc_X7_share l D ca aC IC LC H.size hO) zdC_0 rfl rfl hl.1 rfl (Nat.le_of_ble_eq_true rfl) rfl rfl ⟨Nat.le_of_ble_eq_true rfl, Nat.le_of_ble_eq_true rfl⟩ dL_law_850 ⟨by show cells + 0 ≤ 600000; omega, by show slots + 0 ≤ 7302250; omega⟩) (fun r IC LC H locs hO hB => ?_)
    have hS := hB.1.2.2.2
    refine lv_aload_n hx hb dL_law_853 rfl (lv_at hl 2 rfl) ?_
    refine lv_aload_n hx hb dL_law_854 rfl (lv_at hl 0 rfl) ?_
    refine lv_iload_n hx hb dL_law_855 rfl (lv_at hl 3 rfl) ?_
    refine lv_iconst (v := (1 : Int32)) hx hb dL_law_856 (by decide) ?_
    refine lv_iadd hx hb dL_law_857 ?_
    refine va_sld hx hb hX hbl hbA hS hi1 dL_law_858 ?_
    refine lv_aload_n hx hb dL_law_859 rfl (lv_at hl 0 rfl) ?_
    refine lv_iload_n hx hb dL_law_860 rfl (lv_at hl 3 rfl) ?_
    refine lv_iconst (v := (2 : Int32)) hx hb dL_law_861 (by decide) ?_
    refine lv_iadd hx hb dL_law_862 ?_
    refine va_sld hx hb hX hbl hbA hS hi2 dL_law_863 ?_
    refine lv_if_eq (tgt := 871) hx hb dL_law_864 (by decide) (fun cy => ?_) (fun cy => ?_)
    · exact absurd cy cz
    · skip
      refine lv_iconst (v := (1 : Int32)) hx hb dL_law_867 (by decide) ?_
      refine lv_goto (tgt := 872) hx hb dL_law_868 (by decide) ?_
      refine zl_Ml hB (zz_runV (As := [.int (xs (x3 + (1 : Int32)).toNatClampNeg), .int (1 : Int32)]) (rest := [.long r]) hx hb hml hown zw hB.2.1 zM_L_120 (zc_X8_share l D ca aM IM LM H.size hO) zdM_0 rfl rfl hl.1 rfl (Nat.le_of_ble_eq_true rfl) rfl rfl ⟨Nat.le_of_ble_eq_true rfl, Nat.le_of_ble_eq_true rfl⟩ dL_law_872 ⟨by show cells + 0 ≤ 600000; omega, by show slots + 0 ≤ 7302250; omega⟩) (fun r2 IM LM H locs hO hB => ?_)
      refine zz_l_eq (tgt := 1076) hx hb dL_law_875 dL_law_876 (by decide) (fun cq => ?_) (fun cq => absurd hO.1 cq)
      exact ih cells slots aC IC LC aM IM LM H locs ls hO.2 hB (by omega) (by omega) hl
def zo_24 (Rv : zz_I → zz_L → zz_I → zz_L → Prop) : Prop := ∀ (IC : zz_I) (LC : zz_L) (IM : zz_I) (LM : zz_L) (p0 : Int32), Rv IC LC IM LM → (zp_X7_lost p0 (0 : Int32) (fun r IC2 LC2 => zp_X8_lost p0 (0 : Int32) (fun r2 IM2 LM2 => r = r2 ∧ Rv IC2 LC2 IM2 LM2) IM LM) IC LC) ∧ (zp_X7_lost p0 (1 : Int32) (fun r IC2 LC2 => zp_X8_lost p0 (1 : Int32) (fun r2 IM2 LM2 => r = r2 ∧ Rv IC2 LC2 IM2 LM2) IM LM) IC LC)
set_option maxHeartbeats 4000000 in
set_option maxRecDepth 100000 in
theorem zl_case_24 {p : Program} {l : Launch} {e : Env} {s : State} {m : MethodId} {below : List Frame} {meth : Method} {c : Code} {D : va_G} {ca : Nat → ClassId} {b L : Nat} {xs : Nat → Int32} (hL : L ≤ 2048) (C0 : lw_At p s m meth c b L xs) (zw : zz_W s) {Rv : zz_I → zz_L → zz_I → zz_L → Prop} (hob : zo_24 Rv) {i cells slots : Nat} {x3 : Int32} (hi4 : 4 * i + 4 ≤ L) (ex3 : x3 = nI (4 * i)) {aC aM : Nat → Nat} {IC IM : zz_I} {LC LM : zz_L} {H : Heap} {locs : List Loc} {ls : Array Slot} (hR : Rv IC LC IM LM) (hB : zl_B D ca s aC IC LC aM IM LM H locs) (hc : cells ≤ 200 + i) (hs : slots ≤ 40000 + 14016 * i) (hl : lv_has ls 4 [(0, .ref b), (1, .ref (aC 0)), (2, .ref (aM 0)), (3, .int x3)]) (ih : ∀ (cells slots : Nat) (aC : Nat → Nat) (IC : zz_I) (LC : zz_L) (aM : Nat → Nat) (IM : zz_I) (LM : zz_L) (H : Heap) (locs : List Loc) (ls : Array Slot), Rv IC LC IM LM → zl_B D ca s aC IC LC aM IM LM H locs → cells ≤ 201 + i → slots ≤ 54016 + 14016 * i → lv_has ls 4 [(0, .ref b), (1, .ref (aC 0)), (2, .ref (aM 0)), (3, .int x3)] → W p l e room_1 s m #[Value.ref b] below meth c H locs cells slots (lw_Z below #[Value.ref b] s) (F0 m 1076 ls [])) : W p l e room_1 s m #[Value.ref b] below meth c H locs cells slots (lw_Z below #[Value.ref b] s) (F0 m 881 ls []) := by
  obtain ⟨hx, hb, hr, hml, hown, hts, hX, hbl, hlocks, hgv⟩ := C0
  have hbA : ¬ (zl_A s) b := Nat.not_le.mpr hbl
  have hS := hB.1.2.2.2
  have hiL : i ≤ 511 := by omega
  have hi1 : vp_in (x3 + (1 : Int32)) L := by rw [ex3, show nI (4 * i) + (1 : Int32) = nI (4 * i + 1) from nI_add _ _]; exact vp_in_nI (by omega) (by omega)
  have hi2 : vp_in (x3 + (2 : Int32)) L := by rw [ex3, show nI (4 * i) + (2 : Int32) = nI (4 * i + 2) from nI_add _ _]; exact vp_in_nI (by omega) (by omega)
  have hi3 : vp_in (x3 + (3 : Int32)) L := by rw [ex3, show nI (4 * i) + (3 : Int32) = nI (4 * i + 3) from nI_add _ _]; exact vp_in_nI (by omega) (by omega)
  have hO := hob IC LC IM LM (xs (x3 + (1 : Int32)).toNatClampNeg) hR
  refine lv_aload_n hx hb dL_law_881 rfl (lv_at hl 1 rfl) ?_
  refine lv_aload_n hx hb dL_law_882 rfl (lv_at hl 0 rfl) ?_
  refine lv_iload_n hx hb dL_law_883 rfl (lv_at hl 3 rfl) ?_
  refine lv_iconst (v := (1 : Int32)) hx hb dL_law_884 (by decide) ?_
  refine lv_iadd hx hb dL_law_885 ?_
  refine va_sld hx hb hX hbl hbA hS hi1 dL_law_886 ?_
  refine lv_aload_n hx hb dL_law_887 rfl (lv_at hl 0 rfl) ?_
  refine lv_iload_n hx hb dL_law_888 rfl (lv_at hl 3 rfl) ?_
  refine lv_iconst (v := (2 : Int32)) hx hb dL_law_889 (by decide) ?_
  refine lv_iadd hx hb dL_law_890 ?_
  refine va_sld hx hb hX hbl hbA hS hi2 dL_law_891 ?_
  refine lv_if_eq (tgt := 899) hx hb dL_law_892 (by decide) (fun cz => ?_) (fun cz => ?_)
  · have hO := hO.1
    refine lv_iconst (v := (0 : Int32)) hx hb dL_law_899 (by decide) ?_
    refine zl_Ci hB (zz_runV (As := [.int (xs (x3 + (1 : Int32)).toNatClampNeg), .int (0 : Int32)]) (rest := []) hx hb hml hown zw hB.1 zM_L_121 (zc_X7_lost l D ca aC IC LC H.size hO) zdC_0 rfl rfl hl.1 rfl (Nat.le_of_ble_eq_true rfl) rfl rfl ⟨Nat.le_of_ble_eq_true rfl, Nat.le_of_ble_eq_true rfl⟩ dL_law_900 ⟨by show cells + 0 ≤ 600000; omega, by show slots + 0 ≤ 7302250; omega⟩) (fun r IC LC H locs hO hB => ?_)
    have hS := hB.1.2.2.2
    refine lv_aload_n hx hb dL_law_903 rfl (lv_at hl 2 rfl) ?_
    refine lv_aload_n hx hb dL_law_904 rfl (lv_at hl 0 rfl) ?_
    refine lv_iload_n hx hb dL_law_905 rfl (lv_at hl 3 rfl) ?_
    refine lv_iconst (v := (1 : Int32)) hx hb dL_law_906 (by decide) ?_
    refine lv_iadd hx hb dL_law_907 ?_
    refine va_sld hx hb hX hbl hbA hS hi1 dL_law_908 ?_
    refine lv_aload_n hx hb dL_law_909 rfl (lv_at hl 0 rfl) ?_
    refine lv_iload_n hx hb dL_law_910 rfl (lv_at hl 3 rfl) ?_
    refine lv_iconst (v := (2 : Int32)) hx hb dL_law_911 (by decide) ?_
    refine lv_iadd hx hb dL_law_912 ?_
    refine va_sld hx hb hX hbl hbA hS hi2 dL_law_913 ?_
    refine lv_if_eq (tgt := 921) hx hb dL_law_914 (by decide) (fun cy => ?_) (fun cy => ?_)
    · skip
      refine lv_iconst (v := (0 : Int32)) hx hb dL_law_921 (by decide) ?_
      refine zl_Mi hB (zz_runV (As := [.int (xs (x3 + (1 : Int32)).toNatClampNeg), .int (0 : Int32)]) (rest := [.int r]) hx hb hml hown zw hB.2.1 zM_L_125 (zc_X8_lost l D ca aM IM LM H.size hO) zdM_0 rfl rfl hl.1 rfl (Nat.le_of_ble_eq_true rfl) rfl rfl ⟨Nat.le_of_ble_eq_true rfl, Nat.le_of_ble_eq_true rfl⟩ dL_law_922 ⟨by show cells + 0 ≤ 600000; omega, by show slots + 0 ≤ 7302250; omega⟩) (fun r2 IM LM H locs hO hB => ?_)
      refine lv_icmp_eq (tgt := 1076) hx hb dL_law_925 (by decide) (fun cq => ?_) (fun cq => absurd hO.1 cq)
      exact ih cells slots aC IC LC aM IM LM H locs ls hO.2 hB (by omega) (by omega) hl
    · exact absurd cz cy
  · have hO := hO.2
    refine lv_iconst (v := (1 : Int32)) hx hb dL_law_895 (by decide) ?_
    refine lv_goto (tgt := 900) hx hb dL_law_896 (by decide) ?_
    refine zl_Ci hB (zz_runV (As := [.int (xs (x3 + (1 : Int32)).toNatClampNeg), .int (1 : Int32)]) (rest := []) hx hb hml hown zw hB.1 zM_L_121 (zc_X7_lost l D ca aC IC LC H.size hO) zdC_0 rfl rfl hl.1 rfl (Nat.le_of_ble_eq_true rfl) rfl rfl ⟨Nat.le_of_ble_eq_true rfl, Nat.le_of_ble_eq_true rfl⟩ dL_law_900 ⟨by show cells + 0 ≤ 600000; omega, by show slots + 0 ≤ 7302250; omega⟩) (fun r IC LC H locs hO hB => ?_)
    have hS := hB.1.2.2.2
    refine lv_aload_n hx hb dL_law_903 rfl (lv_at hl 2 rfl) ?_
    refine lv_aload_n hx hb dL_law_904 rfl (lv_at hl 0 rfl) ?_
    refine lv_iload_n hx hb dL_law_905 rfl (lv_at hl 3 rfl) ?_
    refine lv_iconst (v := (1 : Int32)) hx hb dL_law_906 (by decide) ?_
    refine lv_iadd hx hb dL_law_907 ?_
    refine va_sld hx hb hX hbl hbA hS hi1 dL_law_908 ?_
    refine lv_aload_n hx hb dL_law_909 rfl (lv_at hl 0 rfl) ?_
    refine lv_iload_n hx hb dL_law_910 rfl (lv_at hl 3 rfl) ?_
    refine lv_iconst (v := (2 : Int32)) hx hb dL_law_911 (by decide) ?_
    refine lv_iadd hx hb dL_law_912 ?_
    refine va_sld hx hb hX hbl hbA hS hi2 dL_law_913 ?_
    refine lv_if_eq (tgt := 921) hx hb dL_law_914 (by decide) (fun cy => ?_) (fun cy => ?_)
    · exact absurd cy cz
    · skip
      refine lv_iconst (v := (1 : Int32)) hx hb dL_law_917 (by decide) ?_
      refine lv_goto (tgt := 922) hx hb dL_law_918 (by decide) ?_
      refine zl_Mi hB (zz_runV (As := [.int (xs (x3 + (1 : Int32)).toNatClampNeg), .int (1 : Int32)]) (rest := [.int r]) hx hb hml hown zw hB.2.1 zM_L_125 (zc_X8_lost l D ca aM IM LM H.size hO) zdM_0 rfl rfl hl.1 rfl (Nat.le_of_ble_eq_true rfl) rfl rfl ⟨Nat.le_of_ble_eq_true rfl, Nat.le_of_ble_eq_true rfl⟩ dL_law_922 ⟨by show cells + 0 ≤ 600000; omega, by show slots + 0 ≤ 7302250; omega⟩) (fun r2 IM LM H locs hO hB => ?_)
      refine lv_icmp_eq (tgt := 1076) hx hb dL_law_925 (by decide) (fun cq => ?_) (fun cq => absurd hO.1 cq)
      exact ih cells slots aC IC LC aM IM LM H locs ls hO.2 hB (by omega) (by omega) hl
def zo_25 (Rv : zz_I → zz_L → zz_I → zz_L → Prop) : Prop := ∀ (IC : zz_I) (LC : zz_L) (IM : zz_I) (LM : zz_L) (p0 : Int64), Rv IC LC IM LM → zp_X7_seed p0 (fun r IC2 LC2 => zp_X8_seed p0 (fun r2 IM2 LM2 => r = r2 ∧ Rv IC2 LC2 IM2 LM2) IM LM) IC LC
set_option maxHeartbeats 4000000 in
set_option maxRecDepth 100000 in
theorem zl_case_25 {p : Program} {l : Launch} {e : Env} {s : State} {m : MethodId} {below : List Frame} {meth : Method} {c : Code} {D : va_G} {ca : Nat → ClassId} {b L : Nat} {xs : Nat → Int32} (hL : L ≤ 2048) (C0 : lw_At p s m meth c b L xs) (zw : zz_W s) {Rv : zz_I → zz_L → zz_I → zz_L → Prop} (hob : zo_25 Rv) {i cells slots : Nat} {x3 : Int32} (hi4 : 4 * i + 4 ≤ L) (ex3 : x3 = nI (4 * i)) {aC aM : Nat → Nat} {IC IM : zz_I} {LC LM : zz_L} {H : Heap} {locs : List Loc} {ls : Array Slot} (hR : Rv IC LC IM LM) (hB : zl_B D ca s aC IC LC aM IM LM H locs) (hc : cells ≤ 200 + i) (hs : slots ≤ 40000 + 14016 * i) (hl : lv_has ls 4 [(0, .ref b), (1, .ref (aC 0)), (2, .ref (aM 0)), (3, .int x3)]) (ih : ∀ (cells slots : Nat) (aC : Nat → Nat) (IC : zz_I) (LC : zz_L) (aM : Nat → Nat) (IM : zz_I) (LM : zz_L) (H : Heap) (locs : List Loc) (ls : Array Slot), Rv IC LC IM LM → zl_B D ca s aC IC LC aM IM LM H locs → cells ≤ 201 + i → slots ≤ 54016 + 14016 * i → lv_has ls 4 [(0, .ref b), (1, .ref (aC 0)), (2, .ref (aM 0)), (3, .int x3)] → W p l e room_1 s m #[Value.ref b] below meth c H locs cells slots (lw_Z below #[Value.ref b] s) (F0 m 1076 ls [])) : W p l e room_1 s m #[Value.ref b] below meth c H locs cells slots (lw_Z below #[Value.ref b] s) (F0 m 930 ls []) := by
  obtain ⟨hx, hb, hr, hml, hown, hts, hX, hbl, hlocks, hgv⟩ := C0
  have hbA : ¬ (zl_A s) b := Nat.not_le.mpr hbl
  have hS := hB.1.2.2.2
  have hiL : i ≤ 511 := by omega
  have hi1 : vp_in (x3 + (1 : Int32)) L := by rw [ex3, show nI (4 * i) + (1 : Int32) = nI (4 * i + 1) from nI_add _ _]; exact vp_in_nI (by omega) (by omega)
  have hi2 : vp_in (x3 + (2 : Int32)) L := by rw [ex3, show nI (4 * i) + (2 : Int32) = nI (4 * i + 2) from nI_add _ _]; exact vp_in_nI (by omega) (by omega)
  have hi3 : vp_in (x3 + (3 : Int32)) L := by rw [ex3, show nI (4 * i) + (3 : Int32) = nI (4 * i + 3) from nI_add _ _]; exact vp_in_nI (by omega) (by omega)
  have hO := hob IC LC IM LM ((((xs (x3 + (1 : Int32)).toNatClampNeg).toInt64) <<< ((32 : Int32).toInt64 &&& 63)) ||| (((xs (x3 + (2 : Int32)).toNatClampNeg).toInt64) &&& (4294967295 : Int64))) hR
  refine lv_aload_n hx hb dL_law_930 rfl (lv_at hl 1 rfl) ?_
  refine lv_aload_n hx hb dL_law_931 rfl (lv_at hl 0 rfl) ?_
  refine lv_iload_n hx hb dL_law_932 rfl (lv_at hl 3 rfl) ?_
  refine lv_iconst (v := (1 : Int32)) hx hb dL_law_933 (by decide) ?_
  refine lv_iadd hx hb dL_law_934 ?_
  refine va_sld hx hb hX hbl hbA hS hi1 dL_law_935 ?_
  refine lv_i2l (v := (xs (x3 + (1 : Int32)).toNatClampNeg).toInt64) hx hb dL_law_936 rfl ?_
  refine lv_bipush (v := (32 : Int32)) hx hb dL_law_937 (by decide) ?_
  refine lv_lshl (v := ((xs (x3 + (1 : Int32)).toNatClampNeg).toInt64) <<< ((32 : Int32).toInt64 &&& 63)) hx hb dL_law_939 rfl ?_
  refine lv_aload_n hx hb dL_law_940 rfl (lv_at hl 0 rfl) ?_
  refine lv_iload_n hx hb dL_law_941 rfl (lv_at hl 3 rfl) ?_
  refine lv_iconst (v := (2 : Int32)) hx hb dL_law_942 (by decide) ?_
  refine lv_iadd hx hb dL_law_943 ?_
  refine va_sld hx hb hX hbl hbA hS hi2 dL_law_944 ?_
  refine lv_i2l (v := (xs (x3 + (2 : Int32)).toNatClampNeg).toInt64) hx hb dL_law_945 rfl ?_
  refine lv_ldc2 (v := (4294967295 : Int64)) hx hb hown (zz_W_use zw zk_L_78 rfl) dL_law_946 ?_
  refine lv_land hx hb dL_law_949 ?_
  refine lv_lor hx hb dL_law_950 ?_
  refine zl_Cl hB (zz_runV (As := [.long ((((xs (x3 + (1 : Int32)).toNatClampNeg).toInt64) <<< ((32 : Int32).toInt64 &&& 63)) ||| (((xs (x3 + (2 : Int32)).toNatClampNeg).toInt64) &&& (4294967295 : Int64)))]) (rest := []) hx hb hml hown zw hB.1 zM_L_126 (zc_X7_seed l D ca aC IC LC H.size hO) zdC_0 rfl rfl hl.1 rfl (Nat.le_of_ble_eq_true rfl) rfl rfl ⟨Nat.le_of_ble_eq_true rfl, Nat.le_of_ble_eq_true rfl⟩ dL_law_951 ⟨by show cells + 0 ≤ 600000; omega, by show slots + 0 ≤ 7302250; omega⟩) (fun r IC LC H locs hO hB => ?_)
  have hS := hB.1.2.2.2
  refine lv_aload_n hx hb dL_law_954 rfl (lv_at hl 2 rfl) ?_
  refine lv_aload_n hx hb dL_law_955 rfl (lv_at hl 0 rfl) ?_
  refine lv_iload_n hx hb dL_law_956 rfl (lv_at hl 3 rfl) ?_
  refine lv_iconst (v := (1 : Int32)) hx hb dL_law_957 (by decide) ?_
  refine lv_iadd hx hb dL_law_958 ?_
  refine va_sld hx hb hX hbl hbA hS hi1 dL_law_959 ?_
  refine lv_i2l (v := (xs (x3 + (1 : Int32)).toNatClampNeg).toInt64) hx hb dL_law_960 rfl ?_
  refine lv_bipush (v := (32 : Int32)) hx hb dL_law_961 (by decide) ?_
  refine lv_lshl (v := ((xs (x3 + (1 : Int32)).toNatClampNeg).toInt64) <<< ((32 : Int32).toInt64 &&& 63)) hx hb dL_law_963 rfl ?_
  refine lv_aload_n hx hb dL_law_964 rfl (lv_at hl 0 rfl) ?_
  refine lv_iload_n hx hb dL_law_965 rfl (lv_at hl 3 rfl) ?_
  refine lv_iconst (v := (2 : Int32)) hx hb dL_law_966 (by decide) ?_
  refine lv_iadd hx hb dL_law_967 ?_
  refine va_sld hx hb hX hbl hbA hS hi2 dL_law_968 ?_
  refine lv_i2l (v := (xs (x3 + (2 : Int32)).toNatClampNeg).toInt64) hx hb dL_law_969 rfl ?_
  refine lv_ldc2 (v := (4294967295 : Int64)) hx hb hown (zz_W_use zw zk_L_78 rfl) dL_law_970 ?_
  refine lv_land hx hb dL_law_973 ?_
  refine lv_lor hx hb dL_law_974 ?_
  refine zl_Ml hB (zz_runV (As := [.long ((((xs (x3 + (1 : Int32)).toNatClampNeg).toInt64) <<< ((32 : Int32).toInt64 &&& 63)) ||| (((xs (x3 + (2 : Int32)).toNatClampNeg).toInt64) &&& (4294967295 : Int64)))]) (rest := [.long r]) hx hb hml hown zw hB.2.1 zM_L_130 (zc_X8_seed l D ca aM IM LM H.size hO) zdM_0 rfl rfl hl.1 rfl (Nat.le_of_ble_eq_true rfl) rfl rfl ⟨Nat.le_of_ble_eq_true rfl, Nat.le_of_ble_eq_true rfl⟩ dL_law_975 ⟨by show cells + 0 ≤ 600000; omega, by show slots + 0 ≤ 7302250; omega⟩) (fun r2 IM LM H locs hO hB => ?_)
  refine zz_l_eq (tgt := 1076) hx hb dL_law_978 dL_law_979 (by decide) (fun cq => ?_) (fun cq => absurd hO.1 cq)
  exact ih cells slots aC IC LC aM IM LM H locs ls hO.2 hB (by omega) (by omega) hl
def zo_26 (Rv : zz_I → zz_L → zz_I → zz_L → Prop) : Prop := ∀ (IC : zz_I) (LC : zz_L) (IM : zz_I) (LM : zz_L) (p0 : Int32), Rv IC LC IM LM → zp_X7_drawnn p0 (fun r IC2 LC2 => zp_X8_drawn p0 (fun r2 IM2 LM2 => r = r2 ∧ Rv IC2 LC2 IM2 LM2) IM LM) IC LC
set_option maxHeartbeats 4000000 in
set_option maxRecDepth 100000 in
theorem zl_case_26 {p : Program} {l : Launch} {e : Env} {s : State} {m : MethodId} {below : List Frame} {meth : Method} {c : Code} {D : va_G} {ca : Nat → ClassId} {b L : Nat} {xs : Nat → Int32} (hL : L ≤ 2048) (C0 : lw_At p s m meth c b L xs) (zw : zz_W s) {Rv : zz_I → zz_L → zz_I → zz_L → Prop} (hob : zo_26 Rv) {i cells slots : Nat} {x3 : Int32} (hi4 : 4 * i + 4 ≤ L) (ex3 : x3 = nI (4 * i)) {aC aM : Nat → Nat} {IC IM : zz_I} {LC LM : zz_L} {H : Heap} {locs : List Loc} {ls : Array Slot} (hR : Rv IC LC IM LM) (hB : zl_B D ca s aC IC LC aM IM LM H locs) (hc : cells ≤ 200 + i) (hs : slots ≤ 40000 + 14016 * i) (hl : lv_has ls 4 [(0, .ref b), (1, .ref (aC 0)), (2, .ref (aM 0)), (3, .int x3)]) (ih : ∀ (cells slots : Nat) (aC : Nat → Nat) (IC : zz_I) (LC : zz_L) (aM : Nat → Nat) (IM : zz_I) (LM : zz_L) (H : Heap) (locs : List Loc) (ls : Array Slot), Rv IC LC IM LM → zl_B D ca s aC IC LC aM IM LM H locs → cells ≤ 201 + i → slots ≤ 54016 + 14016 * i → lv_has ls 4 [(0, .ref b), (1, .ref (aC 0)), (2, .ref (aM 0)), (3, .int x3)] → W p l e room_1 s m #[Value.ref b] below meth c H locs cells slots (lw_Z below #[Value.ref b] s) (F0 m 1076 ls [])) : W p l e room_1 s m #[Value.ref b] below meth c H locs cells slots (lw_Z below #[Value.ref b] s) (F0 m 984 ls []) := by
  obtain ⟨hx, hb, hr, hml, hown, hts, hX, hbl, hlocks, hgv⟩ := C0
  have hbA : ¬ (zl_A s) b := Nat.not_le.mpr hbl
  have hS := hB.1.2.2.2
  have hiL : i ≤ 511 := by omega
  have hi1 : vp_in (x3 + (1 : Int32)) L := by rw [ex3, show nI (4 * i) + (1 : Int32) = nI (4 * i + 1) from nI_add _ _]; exact vp_in_nI (by omega) (by omega)
  have hi2 : vp_in (x3 + (2 : Int32)) L := by rw [ex3, show nI (4 * i) + (2 : Int32) = nI (4 * i + 2) from nI_add _ _]; exact vp_in_nI (by omega) (by omega)
  have hi3 : vp_in (x3 + (3 : Int32)) L := by rw [ex3, show nI (4 * i) + (3 : Int32) = nI (4 * i + 3) from nI_add _ _]; exact vp_in_nI (by omega) (by omega)
  have hO := hob IC LC IM LM (xs (x3 + (1 : Int32)).toNatClampNeg) hR
  refine lv_aload_n hx hb dL_law_984 rfl (lv_at hl 1 rfl) ?_
  refine lv_aload_n hx hb dL_law_985 rfl (lv_at hl 0 rfl) ?_
  refine lv_iload_n hx hb dL_law_986 rfl (lv_at hl 3 rfl) ?_
  refine lv_iconst (v := (1 : Int32)) hx hb dL_law_987 (by decide) ?_
  refine lv_iadd hx hb dL_law_988 ?_
  refine va_sld hx hb hX hbl hbA hS hi1 dL_law_989 ?_
  refine zl_CiN hB (zz_runV (As := [.int (xs (x3 + (1 : Int32)).toNatClampNeg)]) (rest := []) hx hb hml hown zw hB.1 zM_L_131 (zc_X7_drawnn l D ca aC IC LC H.size hO) zdC_0 rfl rfl hl.1 rfl (Nat.le_of_ble_eq_true rfl) rfl rfl ⟨Nat.le_of_ble_eq_true rfl, Nat.le_of_ble_eq_true rfl⟩ dL_law_990 ⟨by show cells + 1 ≤ 600000; omega, by show slots + 14016 ≤ 7302250; omega⟩) (fun r a1 IC LC H locs hO ha1 hB => ?_)
  rw [← ha1] at hl
  have hS := hB.1.2.2.2
  refine lv_aload_n hx hb dL_law_993 rfl (lv_at hl 2 rfl) ?_
  refine lv_aload_n hx hb dL_law_994 rfl (lv_at hl 0 rfl) ?_
  refine lv_iload_n hx hb dL_law_995 rfl (lv_at hl 3 rfl) ?_
  refine lv_iconst (v := (1 : Int32)) hx hb dL_law_996 (by decide) ?_
  refine lv_iadd hx hb dL_law_997 ?_
  refine va_sld hx hb hX hbl hbA hS hi1 dL_law_998 ?_
  refine zl_Mi hB (zz_runV (As := [.int (xs (x3 + (1 : Int32)).toNatClampNeg)]) (rest := [.int r]) hx hb hml hown zw hB.2.1 zM_L_134 (zc_X8_drawn l D ca aM IM LM H.size hO) zdM_0 rfl rfl hl.1 rfl (Nat.le_of_ble_eq_true rfl) rfl rfl ⟨Nat.le_of_ble_eq_true rfl, Nat.le_of_ble_eq_true rfl⟩ dL_law_999 ⟨by show cells + 1 + 0 ≤ 600000; omega, by show slots + 14016 + 0 ≤ 7302250; omega⟩) (fun r2 IM LM H locs hO hB => ?_)
  refine lv_icmp_eq (tgt := 1076) hx hb dL_law_1002 (by decide) (fun cq => ?_) (fun cq => absurd hO.1 cq)
  exact ih (cells + 1) (slots + 14016) a1 IC LC aM IM LM H locs ls hO.2 hB (by omega) (by omega) hl
def zo_27 (Rv : zz_I → zz_L → zz_I → zz_L → Prop) : Prop := ∀ (IC : zz_I) (LC : zz_L) (IM : zz_I) (LM : zz_L) (p0 : Int32), Rv IC LC IM LM → zp_X7_keep p0 (fun r IC2 LC2 => zp_X8_keep p0 (fun r2 IM2 LM2 => r = r2 ∧ Rv IC2 LC2 IM2 LM2) IM LM) IC LC
set_option maxHeartbeats 4000000 in
set_option maxRecDepth 100000 in
theorem zl_case_27 {p : Program} {l : Launch} {e : Env} {s : State} {m : MethodId} {below : List Frame} {meth : Method} {c : Code} {D : va_G} {ca : Nat → ClassId} {b L : Nat} {xs : Nat → Int32} (hL : L ≤ 2048) (C0 : lw_At p s m meth c b L xs) (zw : zz_W s) {Rv : zz_I → zz_L → zz_I → zz_L → Prop} (hob : zo_27 Rv) {i cells slots : Nat} {x3 : Int32} (hi4 : 4 * i + 4 ≤ L) (ex3 : x3 = nI (4 * i)) {aC aM : Nat → Nat} {IC IM : zz_I} {LC LM : zz_L} {H : Heap} {locs : List Loc} {ls : Array Slot} (hR : Rv IC LC IM LM) (hB : zl_B D ca s aC IC LC aM IM LM H locs) (hc : cells ≤ 200 + i) (hs : slots ≤ 40000 + 14016 * i) (hl : lv_has ls 4 [(0, .ref b), (1, .ref (aC 0)), (2, .ref (aM 0)), (3, .int x3)]) (ih : ∀ (cells slots : Nat) (aC : Nat → Nat) (IC : zz_I) (LC : zz_L) (aM : Nat → Nat) (IM : zz_I) (LM : zz_L) (H : Heap) (locs : List Loc) (ls : Array Slot), Rv IC LC IM LM → zl_B D ca s aC IC LC aM IM LM H locs → cells ≤ 201 + i → slots ≤ 54016 + 14016 * i → lv_has ls 4 [(0, .ref b), (1, .ref (aC 0)), (2, .ref (aM 0)), (3, .int x3)] → W p l e room_1 s m #[Value.ref b] below meth c H locs cells slots (lw_Z below #[Value.ref b] s) (F0 m 1076 ls [])) : W p l e room_1 s m #[Value.ref b] below meth c H locs cells slots (lw_Z below #[Value.ref b] s) (F0 m 1007 ls []) := by
  obtain ⟨hx, hb, hr, hml, hown, hts, hX, hbl, hlocks, hgv⟩ := C0
  have hbA : ¬ (zl_A s) b := Nat.not_le.mpr hbl
  have hS := hB.1.2.2.2
  have hiL : i ≤ 511 := by omega
  have hi1 : vp_in (x3 + (1 : Int32)) L := by rw [ex3, show nI (4 * i) + (1 : Int32) = nI (4 * i + 1) from nI_add _ _]; exact vp_in_nI (by omega) (by omega)
  have hi2 : vp_in (x3 + (2 : Int32)) L := by rw [ex3, show nI (4 * i) + (2 : Int32) = nI (4 * i + 2) from nI_add _ _]; exact vp_in_nI (by omega) (by omega)
  have hi3 : vp_in (x3 + (3 : Int32)) L := by rw [ex3, show nI (4 * i) + (3 : Int32) = nI (4 * i + 3) from nI_add _ _]; exact vp_in_nI (by omega) (by omega)
  have hO := hob IC LC IM LM (xs (x3 + (1 : Int32)).toNatClampNeg) hR
  refine lv_aload_n hx hb dL_law_1007 rfl (lv_at hl 1 rfl) ?_
  refine lv_aload_n hx hb dL_law_1008 rfl (lv_at hl 0 rfl) ?_
  refine lv_iload_n hx hb dL_law_1009 rfl (lv_at hl 3 rfl) ?_
  refine lv_iconst (v := (1 : Int32)) hx hb dL_law_1010 (by decide) ?_
  refine lv_iadd hx hb dL_law_1011 ?_
  refine va_sld hx hb hX hbl hbA hS hi1 dL_law_1012 ?_
  refine zl_Ci hB (zz_runV (As := [.int (xs (x3 + (1 : Int32)).toNatClampNeg)]) (rest := []) hx hb hml hown zw hB.1 zM_L_135 (zc_X7_keep l D ca aC IC LC H.size hO) zdC_0 rfl rfl hl.1 rfl (Nat.le_of_ble_eq_true rfl) rfl rfl ⟨Nat.le_of_ble_eq_true rfl, Nat.le_of_ble_eq_true rfl⟩ dL_law_1013 ⟨by show cells + 0 ≤ 600000; omega, by show slots + 0 ≤ 7302250; omega⟩) (fun r IC LC H locs hO hB => ?_)
  have hS := hB.1.2.2.2
  refine lv_aload_n hx hb dL_law_1016 rfl (lv_at hl 2 rfl) ?_
  refine lv_aload_n hx hb dL_law_1017 rfl (lv_at hl 0 rfl) ?_
  refine lv_iload_n hx hb dL_law_1018 rfl (lv_at hl 3 rfl) ?_
  refine lv_iconst (v := (1 : Int32)) hx hb dL_law_1019 (by decide) ?_
  refine lv_iadd hx hb dL_law_1020 ?_
  refine va_sld hx hb hX hbl hbA hS hi1 dL_law_1021 ?_
  refine zl_Mi hB (zz_runV (As := [.int (xs (x3 + (1 : Int32)).toNatClampNeg)]) (rest := [.int r]) hx hb hml hown zw hB.2.1 zM_L_138 (zc_X8_keep l D ca aM IM LM H.size hO) zdM_0 rfl rfl hl.1 rfl (Nat.le_of_ble_eq_true rfl) rfl rfl ⟨Nat.le_of_ble_eq_true rfl, Nat.le_of_ble_eq_true rfl⟩ dL_law_1022 ⟨by show cells + 0 ≤ 600000; omega, by show slots + 0 ≤ 7302250; omega⟩) (fun r2 IM LM H locs hO hB => ?_)
  refine lv_icmp_eq (tgt := 1076) hx hb dL_law_1025 (by decide) (fun cq => ?_) (fun cq => absurd hO.1 cq)
  exact ih cells slots aC IC LC aM IM LM H locs ls hO.2 hB (by omega) (by omega) hl
def zo_28 (Rv : zz_I → zz_L → zz_I → zz_L → Prop) : Prop := ∀ (IC : zz_I) (LC : zz_L) (IM : zz_I) (LM : zz_L) (p0 : Int32), Rv IC LC IM LM → zp_X7_again p0 (fun r IC2 LC2 => zp_X8_again p0 (fun r2 IM2 LM2 => r = r2 ∧ Rv IC2 LC2 IM2 LM2) IM LM) IC LC
set_option maxHeartbeats 4000000 in
set_option maxRecDepth 100000 in
theorem zl_case_28 {p : Program} {l : Launch} {e : Env} {s : State} {m : MethodId} {below : List Frame} {meth : Method} {c : Code} {D : va_G} {ca : Nat → ClassId} {b L : Nat} {xs : Nat → Int32} (hL : L ≤ 2048) (C0 : lw_At p s m meth c b L xs) (zw : zz_W s) {Rv : zz_I → zz_L → zz_I → zz_L → Prop} (hob : zo_28 Rv) {i cells slots : Nat} {x3 : Int32} (hi4 : 4 * i + 4 ≤ L) (ex3 : x3 = nI (4 * i)) {aC aM : Nat → Nat} {IC IM : zz_I} {LC LM : zz_L} {H : Heap} {locs : List Loc} {ls : Array Slot} (hR : Rv IC LC IM LM) (hB : zl_B D ca s aC IC LC aM IM LM H locs) (hc : cells ≤ 200 + i) (hs : slots ≤ 40000 + 14016 * i) (hl : lv_has ls 4 [(0, .ref b), (1, .ref (aC 0)), (2, .ref (aM 0)), (3, .int x3)]) (ih : ∀ (cells slots : Nat) (aC : Nat → Nat) (IC : zz_I) (LC : zz_L) (aM : Nat → Nat) (IM : zz_I) (LM : zz_L) (H : Heap) (locs : List Loc) (ls : Array Slot), Rv IC LC IM LM → zl_B D ca s aC IC LC aM IM LM H locs → cells ≤ 201 + i → slots ≤ 54016 + 14016 * i → lv_has ls 4 [(0, .ref b), (1, .ref (aC 0)), (2, .ref (aM 0)), (3, .int x3)] → W p l e room_1 s m #[Value.ref b] below meth c H locs cells slots (lw_Z below #[Value.ref b] s) (F0 m 1076 ls [])) : W p l e room_1 s m #[Value.ref b] below meth c H locs cells slots (lw_Z below #[Value.ref b] s) (F0 m 1030 ls []) := by
  obtain ⟨hx, hb, hr, hml, hown, hts, hX, hbl, hlocks, hgv⟩ := C0
  have hbA : ¬ (zl_A s) b := Nat.not_le.mpr hbl
  have hS := hB.1.2.2.2
  have hiL : i ≤ 511 := by omega
  have hi1 : vp_in (x3 + (1 : Int32)) L := by rw [ex3, show nI (4 * i) + (1 : Int32) = nI (4 * i + 1) from nI_add _ _]; exact vp_in_nI (by omega) (by omega)
  have hi2 : vp_in (x3 + (2 : Int32)) L := by rw [ex3, show nI (4 * i) + (2 : Int32) = nI (4 * i + 2) from nI_add _ _]; exact vp_in_nI (by omega) (by omega)
  have hi3 : vp_in (x3 + (3 : Int32)) L := by rw [ex3, show nI (4 * i) + (3 : Int32) = nI (4 * i + 3) from nI_add _ _]; exact vp_in_nI (by omega) (by omega)
  have hO := hob IC LC IM LM (xs (x3 + (1 : Int32)).toNatClampNeg) hR
  refine lv_aload_n hx hb dL_law_1030 rfl (lv_at hl 1 rfl) ?_
  refine lv_aload_n hx hb dL_law_1031 rfl (lv_at hl 0 rfl) ?_
  refine lv_iload_n hx hb dL_law_1032 rfl (lv_at hl 3 rfl) ?_
  refine lv_iconst (v := (1 : Int32)) hx hb dL_law_1033 (by decide) ?_
  refine lv_iadd hx hb dL_law_1034 ?_
  refine va_sld hx hb hX hbl hbA hS hi1 dL_law_1035 ?_
  refine zl_Ci hB (zz_runV (As := [.int (xs (x3 + (1 : Int32)).toNatClampNeg)]) (rest := []) hx hb hml hown zw hB.1 zM_L_139 (zc_X7_again l D ca aC IC LC H.size hO) zdC_0 rfl rfl hl.1 rfl (Nat.le_of_ble_eq_true rfl) rfl rfl ⟨Nat.le_of_ble_eq_true rfl, Nat.le_of_ble_eq_true rfl⟩ dL_law_1036 ⟨by show cells + 0 ≤ 600000; omega, by show slots + 0 ≤ 7302250; omega⟩) (fun r IC LC H locs hO hB => ?_)
  have hS := hB.1.2.2.2
  refine lv_aload_n hx hb dL_law_1039 rfl (lv_at hl 2 rfl) ?_
  refine lv_aload_n hx hb dL_law_1040 rfl (lv_at hl 0 rfl) ?_
  refine lv_iload_n hx hb dL_law_1041 rfl (lv_at hl 3 rfl) ?_
  refine lv_iconst (v := (1 : Int32)) hx hb dL_law_1042 (by decide) ?_
  refine lv_iadd hx hb dL_law_1043 ?_
  refine va_sld hx hb hX hbl hbA hS hi1 dL_law_1044 ?_
  refine zl_Mi hB (zz_runV (As := [.int (xs (x3 + (1 : Int32)).toNatClampNeg)]) (rest := [.int r]) hx hb hml hown zw hB.2.1 zM_L_142 (zc_X8_again l D ca aM IM LM H.size hO) zdM_0 rfl rfl hl.1 rfl (Nat.le_of_ble_eq_true rfl) rfl rfl ⟨Nat.le_of_ble_eq_true rfl, Nat.le_of_ble_eq_true rfl⟩ dL_law_1045 ⟨by show cells + 0 ≤ 600000; omega, by show slots + 0 ≤ 7302250; omega⟩) (fun r2 IM LM H locs hO hB => ?_)
  refine lv_icmp_eq (tgt := 1076) hx hb dL_law_1048 (by decide) (fun cq => ?_) (fun cq => absurd hO.1 cq)
  exact ih cells slots aC IC LC aM IM LM H locs ls hO.2 hB (by omega) (by omega) hl
def zo_29 (Rv : zz_I → zz_L → zz_I → zz_L → Prop) : Prop := ∀ (IC : zz_I) (LC : zz_L) (IM : zz_I) (LM : zz_L) (p0 : Int32), Rv IC LC IM LM → zp_X7_count p0 (fun r => zp_X8_count p0 (fun r2 IM2 LM2 => r = r2 ∧ Rv IC LC IM2 LM2) IM LM) IC LC
set_option maxHeartbeats 4000000 in
set_option maxRecDepth 100000 in
theorem zl_case_29 {p : Program} {l : Launch} {e : Env} {s : State} {m : MethodId} {below : List Frame} {meth : Method} {c : Code} {D : va_G} {ca : Nat → ClassId} {b L : Nat} {xs : Nat → Int32} (hL : L ≤ 2048) (C0 : lw_At p s m meth c b L xs) (zw : zz_W s) {Rv : zz_I → zz_L → zz_I → zz_L → Prop} (hob : zo_29 Rv) {i cells slots : Nat} {x3 : Int32} (hi4 : 4 * i + 4 ≤ L) (ex3 : x3 = nI (4 * i)) {aC aM : Nat → Nat} {IC IM : zz_I} {LC LM : zz_L} {H : Heap} {locs : List Loc} {ls : Array Slot} (hR : Rv IC LC IM LM) (hB : zl_B D ca s aC IC LC aM IM LM H locs) (hc : cells ≤ 200 + i) (hs : slots ≤ 40000 + 14016 * i) (hl : lv_has ls 4 [(0, .ref b), (1, .ref (aC 0)), (2, .ref (aM 0)), (3, .int x3)]) (ih : ∀ (cells slots : Nat) (aC : Nat → Nat) (IC : zz_I) (LC : zz_L) (aM : Nat → Nat) (IM : zz_I) (LM : zz_L) (H : Heap) (locs : List Loc) (ls : Array Slot), Rv IC LC IM LM → zl_B D ca s aC IC LC aM IM LM H locs → cells ≤ 201 + i → slots ≤ 54016 + 14016 * i → lv_has ls 4 [(0, .ref b), (1, .ref (aC 0)), (2, .ref (aM 0)), (3, .int x3)] → W p l e room_1 s m #[Value.ref b] below meth c H locs cells slots (lw_Z below #[Value.ref b] s) (F0 m 1076 ls [])) : W p l e room_1 s m #[Value.ref b] below meth c H locs cells slots (lw_Z below #[Value.ref b] s) (F0 m 1053 ls []) := by
  obtain ⟨hx, hb, hr, hml, hown, hts, hX, hbl, hlocks, hgv⟩ := C0
  have hbA : ¬ (zl_A s) b := Nat.not_le.mpr hbl
  have hS := hB.1.2.2.2
  have hiL : i ≤ 511 := by omega
  have hi1 : vp_in (x3 + (1 : Int32)) L := by rw [ex3, show nI (4 * i) + (1 : Int32) = nI (4 * i + 1) from nI_add _ _]; exact vp_in_nI (by omega) (by omega)
  have hi2 : vp_in (x3 + (2 : Int32)) L := by rw [ex3, show nI (4 * i) + (2 : Int32) = nI (4 * i + 2) from nI_add _ _]; exact vp_in_nI (by omega) (by omega)
  have hi3 : vp_in (x3 + (3 : Int32)) L := by rw [ex3, show nI (4 * i) + (3 : Int32) = nI (4 * i + 3) from nI_add _ _]; exact vp_in_nI (by omega) (by omega)
  have hO := hob IC LC IM LM (xs (x3 + (1 : Int32)).toNatClampNeg) hR
  refine lv_aload_n hx hb dL_law_1053 rfl (lv_at hl 1 rfl) ?_
  refine lv_aload_n hx hb dL_law_1054 rfl (lv_at hl 0 rfl) ?_
  refine lv_iload_n hx hb dL_law_1055 rfl (lv_at hl 3 rfl) ?_
  refine lv_iconst (v := (1 : Int32)) hx hb dL_law_1056 (by decide) ?_
  refine lv_iadd hx hb dL_law_1057 ?_
  refine va_sld hx hb hX hbl hbA hS hi1 dL_law_1058 ?_
  refine zl_Cip hB (zz_runV (As := [.int (xs (x3 + (1 : Int32)).toNatClampNeg)]) (rest := []) hx hb hml hown zw hB.1 zM_L_143 (zc_X7_count l D ca aC IC LC H.size hO) zdC_0 rfl rfl hl.1 rfl (Nat.le_of_ble_eq_true rfl) rfl rfl ⟨Nat.le_of_ble_eq_true rfl, Nat.le_of_ble_eq_true rfl⟩ dL_law_1059 ⟨by show cells + 0 ≤ 600000; omega, by show slots + 0 ≤ 7302250; omega⟩) (fun r H locs hO hB => ?_)
  have hS := hB.1.2.2.2
  refine lv_aload_n hx hb dL_law_1062 rfl (lv_at hl 2 rfl) ?_
  refine lv_aload_n hx hb dL_law_1063 rfl (lv_at hl 0 rfl) ?_
  refine lv_iload_n hx hb dL_law_1064 rfl (lv_at hl 3 rfl) ?_
  refine lv_iconst (v := (1 : Int32)) hx hb dL_law_1065 (by decide) ?_
  refine lv_iadd hx hb dL_law_1066 ?_
  refine va_sld hx hb hX hbl hbA hS hi1 dL_law_1067 ?_
  refine zl_Mi hB (zz_runV (As := [.int (xs (x3 + (1 : Int32)).toNatClampNeg)]) (rest := [.int r]) hx hb hml hown zw hB.2.1 zM_L_146 (zc_X8_count l D ca aM IM LM H.size hO) zdM_0 rfl rfl hl.1 rfl (Nat.le_of_ble_eq_true rfl) rfl rfl ⟨Nat.le_of_ble_eq_true rfl, Nat.le_of_ble_eq_true rfl⟩ dL_law_1068 ⟨by show cells + 0 ≤ 600000; omega, by show slots + 0 ≤ 7302250; omega⟩) (fun r2 IM LM H locs hO hB => ?_)
  refine lv_icmp_eq (tgt := 1076) hx hb dL_law_1071 (by decide) (fun cq => ?_) (fun cq => absurd hO.1 cq)
  exact ih cells slots aC IC LC aM IM LM H locs ls hO.2 hB (by omega) (by omega) hl
set_option maxHeartbeats 4000000 in
set_option maxRecDepth 100000 in
theorem zl_loop {p : Program} {l : Launch} {e : Env} {s : State} {m : MethodId} {below : List Frame} {meth : Method} {c : Code} {D : va_G} {ca : Nat → ClassId} {b L : Nat} {xs : Nat → Int32} (hL : L ≤ 2048) (C0 : lw_At p s m meth c b L xs) (zw : zz_W s) (hF : zz_St (zl_A s) s) {Rv : zz_I → zz_L → zz_I → zz_L → Prop} (o0 : zo_0 Rv) (o1 : zo_1 Rv) (o2 : zo_2 Rv) (o3 : zo_3 Rv) (o4 : zo_4 Rv) (o5 : zo_5 Rv) (o6 : zo_6 Rv) (o7 : zo_7 Rv) (o8 : zo_8 Rv) (o9 : zo_9 Rv) (o10 : zo_10 Rv) (o11 : zo_11 Rv) (o12 : zo_12 Rv) (o13 : zo_13 Rv) (o14 : zo_14 Rv) (o15 : zo_15 Rv) (o16 : zo_16 Rv) (o17 : zo_17 Rv) (o18 : zo_18 Rv) (o19 : zo_19 Rv) (o20 : zo_20 Rv) (o21 : zo_21 Rv) (o22 : zo_22 Rv) (o23 : zo_23 Rv) (o24 : zo_24 Rv) (o25 : zo_25 Rv) (o26 : zo_26 Rv) (o27 : zo_27 Rv) (o28 : zo_28 Rv) (o29 : zo_29 Rv) : ∀ (n i cells slots : Nat) (x3 : Int32) (aC aM : Nat → Nat) (IC IM : zz_I) (LC LM : zz_L) (H : Heap) (locs : List Loc) (ls : Array Slot), L + 4 ≤ 4 * (i + n) → 4 * i ≤ L → x3 = nI (4 * i) → Rv IC LC IM LM → zl_B D ca s aC IC LC aM IM LM H locs → cells ≤ 200 + i → slots ≤ 40000 + 14016 * i → lv_has ls 4 [(0, .ref b), (1, .ref (aC 0)), (2, .ref (aM 0)), (3, .int x3)] → W p l e room_1 s m #[Value.ref b] below meth c H locs cells slots (lw_Z below #[Value.ref b] s) (F0 m 18 ls []) := by
  intro n
  induction n with
  | zero => intro i cells slots x3 aC aM IC IM LC LM H locs ls h1 h2; exact absurd h1 (by omega)
  | succ n ih =>
    intro i cells slots x3 aC aM IC IM LC LM H locs ls hn hi ex3 hR hB hc hs hl
    obtain ⟨hx, hb, hr, hml, hown, hts, hX, hbl, hlocks, hgv⟩ := id C0
    have hbA : ¬ (zl_A s) b := Nat.not_le.mpr hbl
    have hS := hB.1.2.2.2
    refine lv_iload_n hx hb dL_law_18 rfl (lv_at hl 3 rfl) ?_
    refine lv_aload_n hx hb dL_law_19 rfl (lv_at hl 0 rfl) ?_
    refine va_slen hx hb hX hbl hbA hS dL_law_20 ?_
    refine lv_iconst (v := (4 : Int32)) hx hb dL_law_21 (by decide) ?_
    refine lv_isub hx hb dL_law_22 ?_
    refine lv_icmp_gt (tgt := 1082) hx hb dL_law_23 (by decide) (fun c9 => ?_) (fun c9 => ?_)
    · refine lv_iconst (v := (1 : Int32)) hx hb dL_law_1082 (by decide) ?_
      refine va_forget (fun q hq => hS.2.2 q hq) ?_
      refine W.widen (k := 600000) (n := 7302250) (by omega) (by omega) ?_
      exact lw_ret hx hb hr hlocks dL_law_1083
    · have hi4 : 4 * i + 4 ≤ L := by
        have h1 := pk_sub_toInt (a := L) (b := 4) (by omega) (by decide)
        have h2 : (nI (4 * i)).toInt = ((4 * i : Nat) : Int) := nI_toInt (by omega)
        have h3 : ¬ (nI L - nI 4).toInt < (nI (4 * i)).toInt := fun q => c9 (by rw [ex3]; exact Int32.lt_iff_toInt_lt.mpr q)
        rw [h1, h2] at h3
        omega
      have hi0 : vp_in x3 L := by rw [ex3]; exact vp_in_nI (by omega) (by omega)
      have ihk : ∀ (cells slots : Nat) (aC : Nat → Nat) (IC : zz_I) (LC : zz_L) (aM : Nat → Nat) (IM : zz_I) (LM : zz_L) (H : Heap) (locs : List Loc) (ls : Array Slot), Rv IC LC IM LM → zl_B D ca s aC IC LC aM IM LM H locs → cells ≤ 201 + i → slots ≤ 54016 + 14016 * i → lv_has ls 4 [(0, .ref b), (1, .ref (aC 0)), (2, .ref (aM 0)), (3, .int x3)] → W p l e room_1 s m #[Value.ref b] below meth c H locs cells slots (lw_Z below #[Value.ref b] s) (F0 m 1076 ls []) := by
        intro cells slots aC IC LC aM IM LM H locs ls hR hB hc hs hl
        obtain ⟨y3, ey3⟩ : ∃ z : Int32, z = x3 + (4 : Int32) := ⟨_, rfl⟩
        refine lv_iinc (v := y3) (lv' := [(3, .int y3), (0, .ref b), (1, .ref (aC 0)), (2, .ref (aM 0))]) hx hb dL_law_1076 hl (k := 3) rfl (by rw [ey3]; rfl) (by decide) rfl (fun ls hl => ?_)
        refine lv_goto (tgt := 18) hx hb dL_law_1079 (by decide) ?_
        exact ih (i + 1) cells slots y3 aC aM IC IM LC LM H locs ls (by omega) (by omega) (by rw [ey3, ex3, show 4 * (i + 1) = 4 * i + 4 by omega]; exact nI_add _ _) hR hB (by omega) (by omega) (lv_sub hl [1, 2, 3, 0] rfl)
      refine lv_aload_n hx hb dL_law_26 rfl (lv_at hl 0 rfl) ?_
      refine lv_iload_n hx hb dL_law_27 rfl (lv_at hl 3 rfl) ?_
      refine va_sld hx hb hX hbl hbA hS hi0 dL_law_28 ?_
      refine lv_bipush (v := (31 : Int32)) hx hb dL_law_29 (by decide) ?_
      refine lv_iand hx hb dL_law_31 ?_
      refine lv_topi (fun w ew => ?_)
      by_cases q0 : w = (0 : Int32)
      · refine lv_tableIn (tgt := 168) hx hb dL_law_32 (by rw [q0] <;> decide) (by rw [q0] <;> decide) (by rw [q0] <;> rfl) (by decide) ?_
        exact zl_case_0 hL C0 zw o0 hi4 ex3 hR hB hc hs hl ihk
      by_cases q1 : w = (1 : Int32)
      · refine lv_tableIn (tgt := 191) hx hb dL_law_32 (by rw [q1] <;> decide) (by rw [q1] <;> decide) (by rw [q1] <;> rfl) (by decide) ?_
        exact zl_case_1 hL C0 zw o1 hi4 ex3 hR hB hc hs hl ihk
      by_cases q2 : w = (2 : Int32)
      · refine lv_tableIn (tgt := 204) hx hb dL_law_32 (by rw [q2] <;> decide) (by rw [q2] <;> decide) (by rw [q2] <;> rfl) (by decide) ?_
        exact zl_case_2 hL C0 zw o2 hi4 ex3 hR hB hc hs hl ihk
      by_cases q3 : w = (3 : Int32)
      · refine lv_tableIn (tgt := 217) hx hb dL_law_32 (by rw [q3] <;> decide) (by rw [q3] <;> decide) (by rw [q3] <;> rfl) (by decide) ?_
        exact zl_case_3 hL C0 zw o3 hi4 ex3 hR hB hc hs hl ihk
      by_cases q4 : w = (4 : Int32)
      · refine lv_tableIn (tgt := 230) hx hb dL_law_32 (by rw [q4] <;> decide) (by rw [q4] <;> decide) (by rw [q4] <;> rfl) (by decide) ?_
        exact zl_case_4 hL C0 zw o4 hi4 ex3 hR hB hc hs hl ihk
      by_cases q5 : w = (5 : Int32)
      · refine lv_tableIn (tgt := 263) hx hb dL_law_32 (by rw [q5] <;> decide) (by rw [q5] <;> decide) (by rw [q5] <;> rfl) (by decide) ?_
        exact zl_case_5 hL C0 zw o5 hi4 ex3 hR hB hc hs hl ihk
      by_cases q6 : w = (6 : Int32)
      · refine lv_tableIn (tgt := 286) hx hb dL_law_32 (by rw [q6] <;> decide) (by rw [q6] <;> decide) (by rw [q6] <;> rfl) (by decide) ?_
        exact zl_case_6 hL C0 zw o6 hi4 ex3 hR hB hc hs hl ihk
      by_cases q7 : w = (7 : Int32)
      · refine lv_tableIn (tgt := 319) hx hb dL_law_32 (by rw [q7] <;> decide) (by rw [q7] <;> decide) (by rw [q7] <;> rfl) (by decide) ?_
        exact zl_case_7 hL C0 zw o7 hi4 ex3 hR hB hc hs hl ihk
      by_cases q8 : w = (8 : Int32)
      · refine lv_tableIn (tgt := 342) hx hb dL_law_32 (by rw [q8] <;> decide) (by rw [q8] <;> decide) (by rw [q8] <;> rfl) (by decide) ?_
        exact zl_case_8 hL C0 zw o8 hi4 ex3 hR hB hc hs hl ihk
      by_cases q9 : w = (9 : Int32)
      · refine lv_tableIn (tgt := 375) hx hb dL_law_32 (by rw [q9] <;> decide) (by rw [q9] <;> decide) (by rw [q9] <;> rfl) (by decide) ?_
        exact zl_case_9 hL C0 zw o9 hi4 ex3 hR hB hc hs hl ihk
      by_cases q10 : w = (10 : Int32)
      · refine lv_tableIn (tgt := 398) hx hb dL_law_32 (by rw [q10] <;> decide) (by rw [q10] <;> decide) (by rw [q10] <;> rfl) (by decide) ?_
        exact zl_case_10 hL C0 zw o10 hi4 ex3 hR hB hc hs hl ihk
      by_cases q11 : w = (11 : Int32)
      · refine lv_tableIn (tgt := 441) hx hb dL_law_32 (by rw [q11] <;> decide) (by rw [q11] <;> decide) (by rw [q11] <;> rfl) (by decide) ?_
        exact zl_case_11 hL C0 zw o11 hi4 ex3 hR hB hc hs hl ihk
      by_cases q12 : w = (12 : Int32)
      · refine lv_tableIn (tgt := 474) hx hb dL_law_32 (by rw [q12] <;> decide) (by rw [q12] <;> decide) (by rw [q12] <;> rfl) (by decide) ?_
        exact zl_case_12 hL C0 zw o12 hi4 ex3 hR hB hc hs hl ihk
      by_cases q13 : w = (13 : Int32)
      · refine lv_tableIn (tgt := 487) hx hb dL_law_32 (by rw [q13] <;> decide) (by rw [q13] <;> decide) (by rw [q13] <;> rfl) (by decide) ?_
        exact zl_case_13 hL C0 zw o13 hi4 ex3 hR hB hc hs hl ihk
      by_cases q14 : w = (14 : Int32)
      · refine lv_tableIn (tgt := 520) hx hb dL_law_32 (by rw [q14] <;> decide) (by rw [q14] <;> decide) (by rw [q14] <;> rfl) (by decide) ?_
        exact zl_case_14 hL C0 zw o14 hi4 ex3 hR hB hc hs hl ihk
      by_cases q15 : w = (15 : Int32)
      · refine lv_tableIn (tgt := 534) hx hb dL_law_32 (by rw [q15] <;> decide) (by rw [q15] <;> decide) (by rw [q15] <;> rfl) (by decide) ?_
        exact zl_case_15 hL C0 zw o15 hi4 ex3 hR hB hc hs hl ihk
      by_cases q16 : w = (16 : Int32)
      · refine lv_tableIn (tgt := 597) hx hb dL_law_32 (by rw [q16] <;> decide) (by rw [q16] <;> decide) (by rw [q16] <;> rfl) (by decide) ?_
        exact zl_case_16 hL C0 zw o16 hi4 ex3 hR hB hc hs hl ihk
      by_cases q17 : w = (17 : Int32)
      · refine lv_tableIn (tgt := 631) hx hb dL_law_32 (by rw [q17] <;> decide) (by rw [q17] <;> decide) (by rw [q17] <;> rfl) (by decide) ?_
        exact zl_case_17 hL C0 zw o17 hi4 ex3 hR hB hc hs hl ihk
      by_cases q18 : w = (18 : Int32)
      · refine lv_tableIn (tgt := 665) hx hb dL_law_32 (by rw [q18] <;> decide) (by rw [q18] <;> decide) (by rw [q18] <;> rfl) (by decide) ?_
        exact zl_case_18 hL C0 zw o18 hi4 ex3 hR hB hc hs hl ihk
      by_cases q19 : w = (19 : Int32)
      · refine lv_tableIn (tgt := 688) hx hb dL_law_32 (by rw [q19] <;> decide) (by rw [q19] <;> decide) (by rw [q19] <;> rfl) (by decide) ?_
        exact zl_case_19 hL C0 zw o19 hi4 ex3 hR hB hc hs hl ihk
      by_cases q20 : w = (20 : Int32)
      · refine lv_tableIn (tgt := 751) hx hb dL_law_32 (by rw [q20] <;> decide) (by rw [q20] <;> decide) (by rw [q20] <;> rfl) (by decide) ?_
        exact zl_case_20 hL C0 zw o20 hi4 ex3 hR hB hc hs hl ihk
      by_cases q21 : w = (21 : Int32)
      · refine lv_tableIn (tgt := 794) hx hb dL_law_32 (by rw [q21] <;> decide) (by rw [q21] <;> decide) (by rw [q21] <;> rfl) (by decide) ?_
        exact zl_case_21 hL C0 zw o21 hi4 ex3 hR hB hc hs hl ihk
      by_cases q22 : w = (22 : Int32)
      · refine lv_tableIn (tgt := 807) hx hb dL_law_32 (by rw [q22] <;> decide) (by rw [q22] <;> decide) (by rw [q22] <;> rfl) (by decide) ?_
        exact zl_case_22 hL C0 zw o22 hi4 ex3 hR hB hc hs hl ihk
      by_cases q23 : w = (23 : Int32)
      · refine lv_tableIn (tgt := 831) hx hb dL_law_32 (by rw [q23] <;> decide) (by rw [q23] <;> decide) (by rw [q23] <;> rfl) (by decide) ?_
        exact zl_case_23 hL C0 zw hF o23 hi4 ex3 hR hB hc hs hl ihk
      by_cases q24 : w = (24 : Int32)
      · refine lv_tableIn (tgt := 881) hx hb dL_law_32 (by rw [q24] <;> decide) (by rw [q24] <;> decide) (by rw [q24] <;> rfl) (by decide) ?_
        exact zl_case_24 hL C0 zw o24 hi4 ex3 hR hB hc hs hl ihk
      by_cases q25 : w = (25 : Int32)
      · refine lv_tableIn (tgt := 930) hx hb dL_law_32 (by rw [q25] <;> decide) (by rw [q25] <;> decide) (by rw [q25] <;> rfl) (by decide) ?_
        exact zl_case_25 hL C0 zw o25 hi4 ex3 hR hB hc hs hl ihk
      by_cases q26 : w = (26 : Int32)
      · refine lv_tableIn (tgt := 984) hx hb dL_law_32 (by rw [q26] <;> decide) (by rw [q26] <;> decide) (by rw [q26] <;> rfl) (by decide) ?_
        exact zl_case_26 hL C0 zw o26 hi4 ex3 hR hB hc hs hl ihk
      by_cases q27 : w = (27 : Int32)
      · refine lv_tableIn (tgt := 1007) hx hb dL_law_32 (by rw [q27] <;> decide) (by rw [q27] <;> decide) (by rw [q27] <;> rfl) (by decide) ?_
        exact zl_case_27 hL C0 zw o27 hi4 ex3 hR hB hc hs hl ihk
      by_cases q28 : w = (28 : Int32)
      · refine lv_tableIn (tgt := 1030) hx hb dL_law_32 (by rw [q28] <;> decide) (by rw [q28] <;> decide) (by rw [q28] <;> rfl) (by decide) ?_
        exact zl_case_28 hL C0 zw o28 hi4 ex3 hR hB hc hs hl ihk
      by_cases q29 : w = (29 : Int32)
      · refine lv_tableIn (tgt := 1053) hx hb dL_law_32 (by rw [q29] <;> decide) (by rw [q29] <;> decide) (by rw [q29] <;> rfl) (by decide) ?_
        exact zl_case_29 hL C0 zw o29 hi4 ex3 hR hB hc hs hl ihk
      have hts2 : w.toInt < 0 ∨ 29 < w.toInt := by
        have z0 := zz_ne_int q0
        have z1 := zz_ne_int q1
        have z2 := zz_ne_int q2
        have z3 := zz_ne_int q3
        have z4 := zz_ne_int q4
        have z5 := zz_ne_int q5
        have z6 := zz_ne_int q6
        have z7 := zz_ne_int q7
        have z8 := zz_ne_int q8
        have z9 := zz_ne_int q9
        have z10 := zz_ne_int q10
        have z11 := zz_ne_int q11
        have z12 := zz_ne_int q12
        have z13 := zz_ne_int q13
        have z14 := zz_ne_int q14
        have z15 := zz_ne_int q15
        have z16 := zz_ne_int q16
        have z17 := zz_ne_int q17
        have z18 := zz_ne_int q18
        have z19 := zz_ne_int q19
        have z20 := zz_ne_int q20
        have z21 := zz_ne_int q21
        have z22 := zz_ne_int q22
        have z23 := zz_ne_int q23
        have z24 := zz_ne_int q24
        have z25 := zz_ne_int q25
        have z26 := zz_ne_int q26
        have z27 := zz_ne_int q27
        have z28 := zz_ne_int q28
        have z29 := zz_ne_int q29
        have e0 : ((0 : Int32)).toInt = 0 ∧ ((1 : Int32)).toInt = 1 ∧ ((2 : Int32)).toInt = 2 ∧ ((3 : Int32)).toInt = 3 ∧ ((4 : Int32)).toInt = 4 ∧ ((5 : Int32)).toInt = 5 ∧ ((6 : Int32)).toInt = 6 ∧ ((7 : Int32)).toInt = 7 ∧ ((8 : Int32)).toInt = 8 ∧ ((9 : Int32)).toInt = 9 ∧ ((10 : Int32)).toInt = 10 ∧ ((11 : Int32)).toInt = 11 ∧ ((12 : Int32)).toInt = 12 ∧ ((13 : Int32)).toInt = 13 ∧ ((14 : Int32)).toInt = 14 ∧ ((15 : Int32)).toInt = 15 ∧ ((16 : Int32)).toInt = 16 ∧ ((17 : Int32)).toInt = 17 ∧ ((18 : Int32)).toInt = 18 ∧ ((19 : Int32)).toInt = 19 ∧ ((20 : Int32)).toInt = 20 ∧ ((21 : Int32)).toInt = 21 ∧ ((22 : Int32)).toInt = 22 ∧ ((23 : Int32)).toInt = 23 ∧ ((24 : Int32)).toInt = 24 ∧ ((25 : Int32)).toInt = 25 ∧ ((26 : Int32)).toInt = 26 ∧ ((27 : Int32)).toInt = 27 ∧ ((28 : Int32)).toInt = 28 ∧ ((29 : Int32)).toInt = 29 := by decide
        omega
      refine lv_tableOut (tgt := 1076) hx hb dL_law_32 hts2 (by decide) ?_
      exact ihk cells slots aC IC LC aM IM LM H locs ls hR hB (by omega) (by omega) hl
