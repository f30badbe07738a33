def zp_X8_which_98  (P : Int64 → zz_I → zz_L → Prop) (x1 : Int32) (x2 : Int64) (x4 : Int32) (I : zz_I) (L : zz_L) : Prop := (¬ x1 = 0 → (¬ x4 = (-9 : Int32) → zp_X8_find 14 x4 (0 : Int64) (1 : Int32) (fun I124 L124 => zp_X8_aheadOf 14 (fun r132 I132 L132 => P r132 I132 L132) I124 L124) I L) ∧ (x4 = (-9 : Int32) → P (-9 : Int64) I L)) ∧ (x1 = 0 → P x2 I L)
set_option maxHeartbeats 4000000 in
set_option maxRecDepth 100000 in
theorem zq_X8_which_98 {p : Program} {l : Launch} {e : Env} {s : State} {m : MethodId} {args : Array Value} {below : List Frame} {meth : Method} {c : Code} {D : va_G} {ca : Nat → ClassId} {A : Nat → Prop} {a : Nat → Nat}  {P : Int64 → zz_I → zz_L → Prop} {I : zz_I} {L : zz_L} {x1 : Int32} {x2 : Int64} {x4 : Int32} (X : zz_X p s m meth c cX8_which RX8 (some .long) 6) (hA : ∀ q, s.heap.size ≤ q → A q)   (h : zp_X8_which_98  P x1 x2 x4 I L) : zz_Go p l e ({ frames := 6, cells := 0, slots := 0, locals := 154 } : Room) s m args below meth c 0 0 (MQ below (zz_Ql D ca zz_dM A a P) args s 0 0 A) D ca zz_dM A 6 98 a [] [(0, .ref (a 0)), (1, .int x1), (2, .long x2), (4, .int x4)] I L := by
  obtain ⟨hx, hb, hml, hown, zw, hr, hlocks⟩ := id X
  intro H locs ls hB hl
  unfold zp_X8_which_98 at h
  refine lv_iload_n hx hb dX8_which_98 rfl (lv_at hl 1 rfl) ?_
  refine lv_if_ne (tgt := 104) hx hb dX8_which_99 (by decide) (fun c99 => ?_) (fun c99 => ?_)
  · have h := h.1 c99
    refine lv_iload hx hb dX8_which_104 (lv_at hl 3 rfl) ?_
    refine lv_bipush (v := (-9 : Int32)) hx hb dX8_which_106 (by decide) ?_
    refine lv_icmp_ne (tgt := 115) hx hb dX8_which_108 (by decide) (fun c108 => ?_) (fun c108 => ?_)
    · have h := h.1 c108
      refine lv_aload_n hx hb dX8_which_115 rfl (lv_at hl 0 rfl) ?_
      refine lv_aload_n hx hb dX8_which_116 rfl (lv_at hl 0 rfl) ?_
      refine zz_getr (k' := 14) hx hb hown zw hB zF_X8_50 zdM_0 rfl rfl dX8_which_117 ?_
      refine lv_iload hx hb dX8_which_120 (lv_at hl 3 rfl) ?_
      refine lv_lconst (v := (0 : Int64)) hx hb dX8_which_122 (by decide) ?_
      refine lv_iconst (v := (1 : Int32)) hx hb dX8_which_123 (by decide) ?_
      refine zz_gov hB hA (zz_runV (As := [.ref (a 14), .int x4, .long (0 : Int64), .int (1 : Int32)]) (rest := []) hx hb hml hown zw hB zM_X8_227 (zc_X8_find l D ca a I L H.size zdM_14 h) zdM_0 rfl rfl hl.1 rfl (Nat.le_of_ble_eq_true rfl) rfl rfl ⟨Nat.le_of_ble_eq_true rfl, Nat.le_of_ble_eq_true rfl⟩ dX8_which_124 ⟨Nat.le_of_ble_eq_true rfl, Nat.le_of_ble_eq_true rfl⟩) (fun I124 L124 H locs h hB => ?_)
      refine lv_aload_n hx hb dX8_which_127 rfl (lv_at hl 0 rfl) ?_
      refine lv_aload_n hx hb dX8_which_128 rfl (lv_at hl 0 rfl) ?_
      refine zz_getr (k' := 14) hx hb hown zw hB zF_X8_50 zdM_0 rfl rfl dX8_which_129 ?_
      refine zz_gol hB hA (zz_runV (As := [.ref (a 14)]) (rest := []) hx hb hml hown zw hB zM_X8_274 (zc_X8_aheadOf l D ca a I124 L124 H.size zdM_14 h) zdM_0 rfl rfl hl.1 rfl (Nat.le_of_ble_eq_true rfl) rfl rfl ⟨Nat.le_of_ble_eq_true rfl, Nat.le_of_ble_eq_true rfl⟩ dX8_which_132 ⟨Nat.le_of_ble_eq_true rfl, Nat.le_of_ble_eq_true rfl⟩) (fun r132 I132 L132 H locs h hB => ?_)
      exact zz_lret hx hb hr hlocks hB h dX8_which_135
    · have h := h.2 c108
      refine lv_ldc2 (v := (-9 : Int64)) hx hb hown (zz_W_use zw zk_X8_272 rfl) dX8_which_111 ?_
      exact zz_lret hx hb hr hlocks hB h dX8_which_114
  · have h := h.2 c99
    refine lv_lload_n hx hb dX8_which_102 rfl (lv_at hl 2 rfl) ?_
    exact zz_lret hx hb hr hlocks hB h dX8_which_103
def zp_X8_which_37b (K37 : Int64 → Int32 → Int32 → Prop) (P : Int64 → zz_I → zz_L → Prop) (x1 : Int32) (x2 : Int64) (x4 : Int32) (x5 : Int32) (I : zz_I) (L : zz_L) : Prop := ((73 : Int32) ≤ x5 → zp_X8_which_98 P x1 x2 x4 I L) ∧ (¬ (73 : Int32) ≤ x5 → vp_in (0 : Int32) 43 ∧ (((I 14 (0 : Int32).toNatClampNeg) ≤ 0 → zp_X8_which_98 P x1 x2 x4 I L) ∧ (¬ (I 14 (0 : Int32).toNatClampNeg) ≤ 0 → vp_in ((584 : Int32) + x5) 16425 ∧ (∀ v66 : Int64, v66 = x2 + (L 22 ((584 : Int32) + x5).toNatClampNeg) → (vp_in ((584 : Int32) + x5) 16425 ∧ (((L 22 ((584 : Int32) + x5).toNatClampNeg) ≤ (0 : Int64) → ∀ v92 : Int32, v92 = x5 + (1 : Int32) → (K37 v66 x4 v92)) ∧ (¬ (L 22 ((584 : Int32) + x5).toNatClampNeg) ≤ (0 : Int64) → ∀ v92 : Int32, v92 = x5 + (1 : Int32) → (K37 v66 x5 v92))))))))
set_option maxHeartbeats 4000000 in
set_option maxRecDepth 100000 in
theorem zq_X8_which_37b {p : Program} {l : Launch} {e : Env} {s : State} {m : MethodId} {args : Array Value} {below : List Frame} {meth : Method} {c : Code} {D : va_G} {ca : Nat → ClassId} {A : Nat → Prop} {a : Nat → Nat} {K37 : Int64 → Int32 → Int32 → Prop} {P : Int64 → zz_I → zz_L → Prop} {I : zz_I} {L : zz_L} {x1 : Int32} {x2 : Int64} {x4 : Int32} {x5 : Int32} (X : zz_X p s m meth c cX8_which RX8 (some .long) 6) (hA : ∀ q, s.heap.size ≤ q → A q)  (hK37 : ∀ (y2 : Int64) (y4 : Int32) (y5 : Int32), K37 y2 y4 y5 → zz_Go p l e ({ frames := 6, cells := 0, slots := 0, locals := 154 } : Room) s m args below meth c 0 0 (MQ below (zz_Ql D ca zz_dM A a P) args s 0 0 A) D ca zz_dM A 6 37 a [] [(0, .ref (a 0)), (1, .int x1), (2, .long y2), (4, .int y4), (5, .int y5)] I L) (h : zp_X8_which_37b K37 P x1 x2 x4 x5 I L) : zz_Go p l e ({ frames := 6, cells := 0, slots := 0, locals := 154 } : Room) s m args below meth c 0 0 (MQ below (zz_Ql D ca zz_dM A a P) args s 0 0 A) D ca zz_dM A 6 37 a [] [(0, .ref (a 0)), (1, .int x1), (2, .long x2), (4, .int x4), (5, .int x5)] I L := by
  obtain ⟨hx, hb, hml, hown, zw, hr, hlocks⟩ := id X
  intro H locs ls hB hl
  unfold zp_X8_which_37b at h
  refine lv_iload hx hb dX8_which_37 (lv_at hl 4 rfl) ?_
  refine lv_bipush (v := (73 : Int32)) hx hb dX8_which_39 (by decide) ?_
  refine lv_icmp_ge (tgt := 98) hx hb dX8_which_41 (by decide) (fun c41 => ?_) (fun c41 => ?_)
  · have h := h.1 c41
    exact zq_X8_which_98 X hA  h H locs ls hB (lv_sub hl [0, 1, 2, 3] rfl)
  · have h := h.2 c41
    refine lv_aload_n hx hb dX8_which_44 rfl (lv_at hl 0 rfl) ?_
    refine zz_getr (k' := 14) hx hb hown zw hB zF_X8_50 zdM_0 rfl rfl dX8_which_45 ?_
    refine lv_iconst (v := (0 : Int32)) hx hb dX8_which_48 (by decide) ?_
    obtain ⟨hi49, h⟩ := h
    refine zz_iald hx hb hB zdM_14 hi49 dX8_which_49 ?_
    refine lv_if_le (tgt := 98) hx hb dX8_which_50 (by decide) (fun c50 => ?_) (fun c50 => ?_)
    · have h := h.1 c50
      exact zq_X8_which_98 X hA  h H locs ls hB (lv_sub hl [0, 1, 2, 3] rfl)
    · have h := h.2 c50
      refine lv_lload_n hx hb dX8_which_53 rfl (lv_at hl 2 rfl) ?_
      refine lv_aload_n hx hb dX8_which_54 rfl (lv_at hl 0 rfl) ?_
      refine zz_getr (k' := 22) hx hb hown zw hB zF_X8_74 zdM_0 rfl rfl dX8_which_55 ?_
      refine lv_sipush (v := (584 : Int32)) hx hb dX8_which_58 (by decide) ?_
      refine lv_iload hx hb dX8_which_61 (lv_at hl 4 rfl) ?_
      refine lv_iadd hx hb dX8_which_63 ?_
      obtain ⟨hi64, h⟩ := h
      refine zz_lald hx hb hB zdM_22 hi64 dX8_which_64 ?_
      refine lv_ladd hx hb dX8_which_65 ?_
      refine lv_topl (fun v66 ev66 => ?_)
      have h := h v66 ev66
      refine lv_lstore_n (lv' := [(2, .long v66), (0, .ref (a 0)), (1, .int x1), (4, .int x4), (5, .int x5)]) hx hb dX8_which_66 rfl hl (by decide) rfl (fun ls hl => ?_)
      refine lv_aload_n hx hb dX8_which_67 rfl (lv_at hl 1 rfl) ?_
      refine zz_getr (k' := 22) hx hb hown zw hB zF_X8_74 zdM_0 rfl rfl dX8_which_68 ?_
      refine lv_sipush (v := (584 : Int32)) hx hb dX8_which_71 (by decide) ?_
      refine lv_iload hx hb dX8_which_74 (lv_at hl 4 rfl) ?_
      refine lv_iadd hx hb dX8_which_76 ?_
      obtain ⟨hi77, h⟩ := h
      refine zz_lald hx hb hB zdM_22 hi77 dX8_which_77 ?_
      refine lv_lconst (v := (0 : Int64)) hx hb dX8_which_78 (by decide) ?_
      refine zz_l_le (tgt := 88) hx hb dX8_which_79 dX8_which_80 (by decide) (fun c79 => ?_) (fun c79 => ?_)
      · have h := h.1 c79
        refine lv_iload hx hb dX8_which_88 (lv_at hl 3 rfl) ?_
        refine lv_istore (lv' := [(4, .int x4), (2, .long v66), (0, .ref (a 0)), (1, .int x1), (5, .int x5)]) hx hb dX8_which_90 hl (by decide) rfl (fun ls hl => ?_)
        obtain ⟨v92, ev92⟩ : ∃ z : Int32, z = x5 + (1 : Int32) := ⟨_, rfl⟩
        have h := h v92 ev92
        refine lv_iinc (v := v92) (lv' := [(5, .int v92), (4, .int x4), (2, .long v66), (0, .ref (a 0)), (1, .int x1)]) hx hb dX8_which_92 hl (k := 4) rfl (by rw [ev92]; rfl) (by decide) rfl (fun ls hl => ?_)
        refine lv_goto (tgt := 37) hx hb dX8_which_95 (by decide) ?_
        exact hK37 _ _ _ h H locs ls hB (lv_sub hl [3, 4, 2, 1, 0] rfl)
      · have h := h.2 c79
        refine lv_iload hx hb dX8_which_83 (lv_at hl 4 rfl) ?_
        refine lv_goto (tgt := 90) hx hb dX8_which_85 (by decide) ?_
        refine lv_istore (lv' := [(4, .int x5), (2, .long v66), (0, .ref (a 0)), (1, .int x1), (5, .int x5)]) hx hb dX8_which_90 hl (by decide) rfl (fun ls hl => ?_)
        obtain ⟨v92, ev92⟩ : ∃ z : Int32, z = x5 + (1 : Int32) := ⟨_, rfl⟩
        have h := h v92 ev92
        refine lv_iinc (v := v92) (lv' := [(5, .int v92), (4, .int x5), (2, .long v66), (0, .ref (a 0)), (1, .int x1)]) hx hb dX8_which_92 hl (k := 4) rfl (by rw [ev92]; rfl) (by decide) rfl (fun ls hl => ?_)
        refine lv_goto (tgt := 37) hx hb dX8_which_95 (by decide) ?_
        exact hK37 _ _ _ h H locs ls hB (lv_sub hl [3, 4, 2, 1, 0] rfl)
def zp_X8_which_37  (P : Int64 → zz_I → zz_L → Prop) (x1 : Int32) (x2 : Int64) (x4 : Int32) (x5 : Int32) (I : zz_I) (L : zz_L) : Prop := ∃ (Inv : Int64 → Int32 → Int32 → Prop) (μ : Int64 → Int32 → Int32 → Nat), Inv x2 x4 x5 ∧ ∀ (y2 : Int64) (y4 : Int32) (y5 : Int32), Inv y2 y4 y5 → zp_X8_which_37b  (fun z2 z4 z5 => Inv z2 z4 z5 ∧ μ z2 z4 z5 < μ y2 y4 y5) P x1 y2 y4 y5 I L
set_option maxHeartbeats 4000000 in
set_option maxRecDepth 100000 in
theorem zq_X8_which_37 {p : Program} {l : Launch} {e : Env} {s : State} {m : MethodId} {args : Array Value} {below : List Frame} {meth : Method} {c : Code} {D : va_G} {ca : Nat → ClassId} {A : Nat → Prop} {a : Nat → Nat}  {P : Int64 → zz_I → zz_L → Prop} {I : zz_I} {L : zz_L} {x1 : Int32} {x2 : Int64} {x4 : Int32} {x5 : Int32} (X : zz_X p s m meth c cX8_which RX8 (some .long) 6) (hA : ∀ q, s.heap.size ≤ q → A q)   (h : zp_X8_which_37  P x1 x2 x4 x5 I L) : zz_Go p l e ({ frames := 6, cells := 0, slots := 0, locals := 154 } : Room) s m args below meth c 0 0 (MQ below (zz_Ql D ca zz_dM A a P) args s 0 0 A) D ca zz_dM A 6 37 a [] [(0, .ref (a 0)), (1, .int x1), (2, .long x2), (4, .int x4), (5, .int x5)] I L := by
  unfold zp_X8_which_37 at h
  obtain ⟨Inv, μ, hv0, hs⟩ := h
  have key : ∀ (n9 : Nat) (y2 : Int64) (y4 : Int32) (y5 : Int32), μ y2 y4 y5 < n9 → Inv y2 y4 y5 → zz_Go p l e ({ frames := 6, cells := 0, slots := 0, locals := 154 } : Room) s m args below meth c 0 0 (MQ below (zz_Ql D ca zz_dM A a P) args s 0 0 A) D ca zz_dM A 6 37 a [] [(0, .ref (a 0)), (1, .int x1), (2, .long y2), (4, .int y4), (5, .int y5)] I L := by
    intro n9
    induction n9 with
    | zero => intro y2 y4 y5 hn; exact absurd hn (Nat.not_lt_zero _)
    | succ n9 ih =>
      intro y2 y4 y5 hn hi
      exact zq_X8_which_37b (K37 := (fun z2 z4 z5 => Inv z2 z4 z5 ∧ μ z2 z4 z5 < μ y2 y4 y5)) X hA   (fun z2 z4 z5 hz => ih z2 z4 z5 (Nat.lt_of_lt_of_le hz.2 (Nat.le_of_lt_succ hn)) hz.1) (hs y2 y4 y5 hi)
  exact key _ x2 x4 x5 (Nat.lt_succ_self _) hv0
def zp_X8_which (x1 : Int32) (P : Int64 → zz_I → zz_L → Prop) (I : zz_I) (L : zz_L) : Prop := ∀ I2 : zz_I, I2 = zz_up I 0 0 (0 : Int32) → (zp_X8_in (x1.toInt64) (0 : Int64) (1 : Int64) (fun r9 => (¬ r9 = 0 → zp_X8_layHeavy 14 (1 : Int32) (fun I25 L25 => zp_X8_which_37 P x1 (0 : Int64) (-9 : Int32) (0 : Int32) I25 L25) I2 L) ∧ (r9 = 0 → P (-2 : Int64) I2 L)) I2 L)
set_option maxHeartbeats 4000000 in
set_option maxRecDepth 100000 in
theorem zq_X8_which {p : Program} {l : Launch} {e : Env} {s : State} {m : MethodId} {args : Array Value} {below : List Frame} {meth : Method} {c : Code} {D : va_G} {ca : Nat → ClassId} {A : Nat → Prop} {a : Nat → Nat}  {P : Int64 → zz_I → zz_L → Prop} {I : zz_I} {L : zz_L} {x1 : Int32} (X : zz_X p s m meth c cX8_which RX8 (some .long) 6) (hA : ∀ q, s.heap.size ≤ q → A q)   (h : zp_X8_which x1 P I L) : zz_Go p l e ({ frames := 6, cells := 0, slots := 0, locals := 154 } : Room) s m args below meth c 0 0 (MQ below (zz_Ql D ca zz_dM A a P) args s 0 0 A) D ca zz_dM A 6 0 a [] [(0, .ref (a 0)), (1, .int x1)] I L := by
  obtain ⟨hx, hb, hml, hown, zw, hr, hlocks⟩ := id X
  intro H locs ls hB hl
  unfold zp_X8_which at h
  refine lv_aload_n hx hb dX8_which_0 rfl (lv_at hl 0 rfl) ?_
  refine lv_iconst (v := (0 : Int32)) hx hb dX8_which_1 (by decide) ?_
  refine zz_puti hx hb hown zw hB zP_X8_94 zdM_0 rfl dX8_which_2 (fun H locs hB => ?_)
  obtain ⟨I2, eI2⟩ : ∃ z : zz_I, z = zz_up I 0 0 (0 : Int32) := ⟨_, rfl⟩
  rw [← eI2] at hB
  have h := h I2 eI2
  refine lv_iload_n hx hb dX8_which_5 rfl (lv_at hl 1 rfl) ?_
  refine lv_i2l (v := x1.toInt64) hx hb dX8_which_6 rfl ?_
  refine lv_lconst (v := (0 : Int64)) hx hb dX8_which_7 (by decide) ?_
  refine lv_lconst (v := (1 : Int64)) hx hb dX8_which_8 (by decide) ?_
  refine zz_goip hB hA (zz_runS (As := [.long (x1.toInt64), .long (0 : Int64), .long (1 : Int64)]) (rest := []) hx hb hml hown zw hB zM_X8_101 (zc_X8_in l D ca a I2 L H.size h) rfl hl.1 rfl (Nat.le_of_ble_eq_true rfl) rfl rfl ⟨Nat.le_of_ble_eq_true rfl, Nat.le_of_ble_eq_true rfl⟩ dX8_which_9 ⟨Nat.le_of_ble_eq_true rfl, Nat.le_of_ble_eq_true rfl⟩) (fun r9 H locs h hB => ?_)
  refine lv_if_ne (tgt := 19) hx hb dX8_which_12 (by decide) (fun c12 => ?_) (fun c12 => ?_)
  · have h := h.1 c12
    refine lv_aload_n hx hb dX8_which_19 rfl (lv_at hl 0 rfl) ?_
    refine lv_aload_n hx hb dX8_which_20 rfl (lv_at hl 0 rfl) ?_
    refine zz_getr (k' := 14) hx hb hown zw hB zF_X8_50 zdM_0 rfl rfl dX8_which_21 ?_
    refine lv_iconst (v := (1 : Int32)) hx hb dX8_which_24 (by decide) ?_
    refine zz_gov hB hA (zz_runV (As := [.ref (a 14), .int (1 : Int32)]) (rest := []) hx hb hml hown zw hB zM_X8_223 (zc_X8_layHeavy l D ca a I2 L H.size zdM_14 h) zdM_0 rfl rfl hl.1 rfl (Nat.le_of_ble_eq_true rfl) rfl rfl ⟨Nat.le_of_ble_eq_true rfl, Nat.le_of_ble_eq_true rfl⟩ dX8_which_25 ⟨Nat.le_of_ble_eq_true rfl, Nat.le_of_ble_eq_true rfl⟩) (fun I25 L25 H locs h hB => ?_)
    refine lv_lconst (v := (0 : Int64)) hx hb dX8_which_28 (by decide) ?_
    refine lv_lstore_n (lv' := [(2, .long (0 : Int64)), (0, .ref (a 0)), (1, .int x1)]) hx hb dX8_which_29 rfl hl (by decide) rfl (fun ls hl => ?_)
    refine lv_bipush (v := (-9 : Int32)) hx hb dX8_which_30 (by decide) ?_
    refine lv_istore (lv' := [(4, .int (-9 : Int32)), (2, .long (0 : Int64)), (0, .ref (a 0)), (1, .int x1)]) hx hb dX8_which_32 hl (by decide) rfl (fun ls hl => ?_)
    refine lv_iconst (v := (0 : Int32)) hx hb dX8_which_34 (by decide) ?_
    refine lv_istore (lv' := [(5, .int (0 : Int32)), (4, .int (-9 : Int32)), (2, .long (0 : Int64)), (0, .ref (a 0)), (1, .int x1)]) hx hb dX8_which_35 hl (by decide) rfl (fun ls hl => ?_)
    exact zq_X8_which_37 X hA  h H locs ls hB (lv_sub hl [3, 4, 2, 1, 0] rfl)
  · have h := h.2 c12
    refine lv_ldc2 (v := (-2 : Int64)) hx hb hown (zz_W_use zw zk_X8_255 rfl) dX8_which_15 ?_
    exact zz_lret hx hb hr hlocks hB h dX8_which_18
theorem zc_X8_which (l : Launch) (D : va_G) (ca : Nat → ClassId) (a : Nat → Nat) (I : zz_I) (L : zz_L) (sz : Nat) {x1 : Int32} {P : Int64 → zz_I → zz_L → Prop}  (h : zp_X8_which x1 P I L) : Met l yX8_which [.code yX8_which cX8_which 6 (some .long)] ({ frames := 6, cells := 0, slots := 0, locals := 154 } : Room) (zz_Pre D ca zz_dM [.ref (a 0), .int x1] a I L sz) (zz_Ql D ca zz_dM (zz_A ca zz_dM a I L sz) a P) 0 0 (zz_A ca zz_dM a I L sz) :=
  zz_start (by decide) (Nat.le_of_ble_eq_true rfl) (fun p e s m below meth c X hsz hA => zq_X8_which X hA  h)
def zp_X8_wipe  (P : Int32 → zz_I → zz_L → Prop) (I : zz_I) (L : zz_L) : Prop := ∀ I2 : zz_I, I2 = zz_up I 0 0 (0 : Int32) → (∀ v9 : Int32, v9 = I2 0 2 → (∀ I12 : zz_I, I12 = zz_up I2 0 2 (0 : Int32) → (P v9 I12 L)))
set_option maxHeartbeats 4000000 in
set_option maxRecDepth 100000 in
theorem zq_X8_wipe {p : Program} {l : Launch} {e : Env} {s : State} {m : MethodId} {args : Array Value} {below : List Frame} {meth : Method} {c : Code} {D : va_G} {ca : Nat → ClassId} {A : Nat → Prop} {a : Nat → Nat}  {P : Int32 → zz_I → zz_L → Prop} {I : zz_I} {L : zz_L}  (X : zz_X p s m meth c cX8_wipe RX8 (some .int) 2) (hA : ∀ q, s.heap.size ≤ q → A q)   (h : zp_X8_wipe  P I L) : zz_Go p l e ({ frames := 0, cells := 0, slots := 0, locals := 0 } : Room) s m args below meth c 0 0 (MQ below (zz_Qi D ca zz_dM A a P) args s 0 0 A) D ca zz_dM A 2 0 a [] [(0, .ref (a 0))] I L := by
  obtain ⟨hx, hb, hml, hown, zw, hr, hlocks⟩ := id X
  intro H locs ls hB hl
  unfold zp_X8_wipe at h
  refine lv_aload_n hx hb dX8_wipe_0 rfl (lv_at hl 0 rfl) ?_
  refine lv_iconst (v := (0 : Int32)) hx hb dX8_wipe_1 (by decide) ?_
  refine zz_puti hx hb hown zw hB zP_X8_94 zdM_0 rfl dX8_wipe_2 (fun H locs hB => ?_)
  obtain ⟨I2, eI2⟩ : ∃ z : zz_I, z = zz_up I 0 0 (0 : Int32) := ⟨_, rfl⟩
  rw [← eI2] at hB
  have h := h I2 eI2
  refine lv_aload_n hx hb dX8_wipe_5 rfl (lv_at hl 0 rfl) ?_
  refine zz_geti hx hb hown zw hB zF_X8_107 zdM_0 rfl dX8_wipe_6 ?_
  refine lv_topi (fun v9 ev9 => ?_)
  have h := h v9 ev9
  refine lv_istore_n (lv' := [(1, .int v9), (0, .ref (a 0))]) hx hb dX8_wipe_9 rfl hl (by decide) rfl (fun ls hl => ?_)
  refine lv_aload_n hx hb dX8_wipe_10 rfl (lv_at hl 1 rfl) ?_
  refine lv_iconst (v := (0 : Int32)) hx hb dX8_wipe_11 (by decide) ?_
  refine zz_puti hx hb hown zw hB zP_X8_107 zdM_0 rfl dX8_wipe_12 (fun H locs hB => ?_)
  obtain ⟨I12, eI12⟩ : ∃ z : zz_I, z = zz_up I2 0 2 (0 : Int32) := ⟨_, rfl⟩
  rw [← eI12] at hB
  have h := h I12 eI12
  refine lv_iload_n hx hb dX8_wipe_15 rfl (lv_at hl 0 rfl) ?_
  exact zz_iret hx hb hr hlocks hB h dX8_wipe_16
theorem zc_X8_wipe (l : Launch) (D : va_G) (ca : Nat → ClassId) (a : Nat → Nat) (I : zz_I) (L : zz_L) (sz : Nat)  {P : Int32 → zz_I → zz_L → Prop}  (h : zp_X8_wipe  P I L) : Met l yX8_wipe [.code yX8_wipe cX8_wipe 2 (some .int)] ({ frames := 0, cells := 0, slots := 0, locals := 0 } : Room) (zz_Pre D ca zz_dM [.ref (a 0)] a I L sz) (zz_Qi D ca zz_dM (zz_A ca zz_dM a I L sz) a P) 0 0 (zz_A ca zz_dM a I L sz) :=
  zz_start (by decide) (Nat.le_of_ble_eq_true rfl) (fun p e s m below meth c X hsz hA => zq_X8_wipe X hA  h)
def zp_X8_word (x1 : Int32) (x2 : Int32) (P : Int32 → zz_I → zz_L → Prop) (I : zz_I) (L : zz_L) : Prop := ∀ I2 : zz_I, I2 = zz_up I 0 0 (0 : Int32) → (zp_X8_noWord x1 (fun r7 => (r7 = 0 → (x2 = (0 : Int32) → vp_in x1 8 ∧ (P (I2 3 x1.toNatClampNeg) I2 L)) ∧ (x2 = (1 : Int32) → vp_in x1 8 ∧ (P (I2 5 x1.toNatClampNeg) I2 L)) ∧ (x2 = (2 : Int32) → vp_in x1 8 ∧ (P (I2 6 x1.toNatClampNeg) I2 L)) ∧ (x2 = (3 : Int32) → vp_in ((11 : Int32) + x1) 43 ∧ (P (I2 14 ((11 : Int32) + x1).toNatClampNeg) I2 L)) ∧ (x2 = (4 : Int32) → zp_X8_unitsOf x1 (fun r93 => P r93 I2 L) I2 L) ∧ (x2 = (5 : Int32) → vp_in (1 : Int32) 43 ∧ (P (((I2 14 (1 : Int32).toNatClampNeg) >>> (x1 &&& 31)) &&& (1 : Int32)) I2 L)) ∧ (x2 = (6 : Int32) → vp_in x1 8 ∧ (vp_in ((((5 : Int32) * x1) + (I2 3 x1.toNatClampNeg)) - (1 : Int32)) 40 ∧ (P (I2 4 ((((5 : Int32) * x1) + (I2 3 x1.toNatClampNeg)) - (1 : Int32)).toNatClampNeg) I2 L))) ∧ (¬ x2 = (0 : Int32) → ¬ x2 = (1 : Int32) → ¬ x2 = (2 : Int32) → ¬ x2 = (3 : Int32) → ¬ x2 = (4 : Int32) → ¬ x2 = (5 : Int32) → ¬ x2 = (6 : Int32) → P (-2 : Int32) I2 L)) ∧ (¬ r7 = 0 → P (-1 : Int32) I2 L)) I2 L)
set_option maxHeartbeats 4000000 in
set_option maxRecDepth 100000 in
theorem zq_X8_word {p : Program} {l : Launch} {e : Env} {s : State} {m : MethodId} {args : Array Value} {below : List Frame} {meth : Method} {c : Code} {D : va_G} {ca : Nat → ClassId} {A : Nat → Prop} {a : Nat → Nat}  {P : Int32 → zz_I → zz_L → Prop} {I : zz_I} {L : zz_L} {x1 : Int32} {x2 : Int32} (X : zz_X p s m meth c cX8_word RX8 (some .int) 3) (hA : ∀ q, s.heap.size ≤ q → A q)   (h : zp_X8_word x1 x2 P I L) : zz_Go p l e ({ frames := 2, cells := 0, slots := 0, locals := 46 } : Room) s m args below meth c 0 0 (MQ below (zz_Qi D ca zz_dM A a P) args s 0 0 A) D ca zz_dM A 3 0 a [] [(0, .ref (a 0)), (1, .int x1), (2, .int x2)] I L := by
  obtain ⟨hx, hb, hml, hown, zw, hr, hlocks⟩ := id X
  intro H locs ls hB hl
  unfold zp_X8_word at h
  refine lv_aload_n hx hb dX8_word_0 rfl (lv_at hl 0 rfl) ?_
  refine lv_iconst (v := (0 : Int32)) hx hb dX8_word_1 (by decide) ?_
  refine zz_puti hx hb hown zw hB zP_X8_94 zdM_0 rfl dX8_word_2 (fun H locs hB => ?_)
  obtain ⟨I2, eI2⟩ : ∃ z : zz_I, z = zz_up I 0 0 (0 : Int32) := ⟨_, rfl⟩
  rw [← eI2] at hB
  have h := h I2 eI2
  refine lv_aload_n hx hb dX8_word_5 rfl (lv_at hl 0 rfl) ?_
  refine lv_iload_n hx hb dX8_word_6 rfl (lv_at hl 1 rfl) ?_
  refine zz_goip hB hA (zz_runV (As := [.int x1]) (rest := []) hx hb hml hown zw hB zM_X8_148 (zc_X8_noWord l D ca a I2 L H.size h) zdM_0 rfl rfl hl.1 rfl (Nat.le_of_ble_eq_true rfl) rfl rfl ⟨Nat.le_of_ble_eq_true rfl, Nat.le_of_ble_eq_true rfl⟩ dX8_word_7 ⟨Nat.le_of_ble_eq_true rfl, Nat.le_of_ble_eq_true rfl⟩) (fun r7 H locs h hB => ?_)
  refine lv_if_eq (tgt := 15) hx hb dX8_word_10 (by decide) (fun c10 => ?_) (fun c10 => ?_)
  · have h := h.1 c10
    refine lv_iload_n hx hb dX8_word_15 rfl (lv_at hl 2 rfl) ?_
    by_cases q16_0 : x2 = (0 : Int32)
    · have h := h.1 q16_0
      refine lv_tableIn (tgt := 60) hx hb dX8_word_16 (by rw [q16_0] <;> decide) (by rw [q16_0] <;> decide) (by rw [q16_0] <;> rfl) (by decide) ?_
      refine lv_aload_n hx hb dX8_word_60 rfl (lv_at hl 0 rfl) ?_
      refine zz_getr (k' := 3) hx hb hown zw hB zF_X8_16 zdM_0 rfl rfl dX8_word_61 ?_
      refine lv_iload_n hx hb dX8_word_64 rfl (lv_at hl 1 rfl) ?_
      obtain ⟨hi65, h⟩ := h
      refine zz_iald hx hb hB zdM_3 hi65 dX8_word_65 ?_
      exact zz_iret hx hb hr hlocks hB h dX8_word_66
    by_cases q16_1 : x2 = (1 : Int32)
    · have h := h.2.1 q16_1
      refine lv_tableIn (tgt := 67) hx hb dX8_word_16 (by rw [q16_1] <;> decide) (by rw [q16_1] <;> decide) (by rw [q16_1] <;> rfl) (by decide) ?_
      refine lv_aload_n hx hb dX8_word_67 rfl (lv_at hl 0 rfl) ?_
      refine zz_getr (k' := 5) hx hb hown zw hB zF_X8_22 zdM_0 rfl rfl dX8_word_68 ?_
      refine lv_iload_n hx hb dX8_word_71 rfl (lv_at hl 1 rfl) ?_
      obtain ⟨hi72, h⟩ := h
      refine zz_iald hx hb hB zdM_5 hi72 dX8_word_72 ?_
      exact zz_iret hx hb hr hlocks hB h dX8_word_73
    by_cases q16_2 : x2 = (2 : Int32)
    · have h := h.2.2.1 q16_2
      refine lv_tableIn (tgt := 74) hx hb dX8_word_16 (by rw [q16_2] <;> decide) (by rw [q16_2] <;> decide) (by rw [q16_2] <;> rfl) (by decide) ?_
      refine lv_aload_n hx hb dX8_word_74 rfl (lv_at hl 0 rfl) ?_
      refine zz_getr (k' := 6) hx hb hown zw hB zF_X8_25 zdM_0 rfl rfl dX8_word_75 ?_
      refine lv_iload_n hx hb dX8_word_78 rfl (lv_at hl 1 rfl) ?_
      obtain ⟨hi79, h⟩ := h
      refine zz_iald hx hb hB zdM_6 hi79 dX8_word_79 ?_
      exact zz_iret hx hb hr hlocks hB h dX8_word_80
    by_cases q16_3 : x2 = (3 : Int32)
    · have h := h.2.2.2.1 q16_3
      refine lv_tableIn (tgt := 81) hx hb dX8_word_16 (by rw [q16_3] <;> decide) (by rw [q16_3] <;> decide) (by rw [q16_3] <;> rfl) (by decide) ?_
      refine lv_aload_n hx hb dX8_word_81 rfl (lv_at hl 0 rfl) ?_
      refine zz_getr (k' := 14) hx hb hown zw hB zF_X8_50 zdM_0 rfl rfl dX8_word_82 ?_
      refine lv_bipush (v := (11 : Int32)) hx hb dX8_word_85 (by decide) ?_
      refine lv_iload_n hx hb dX8_word_87 rfl (lv_at hl 1 rfl) ?_
      refine lv_iadd hx hb dX8_word_88 ?_
      obtain ⟨hi89, h⟩ := h
      refine zz_iald hx hb hB zdM_14 hi89 dX8_word_89 ?_
      exact zz_iret hx hb hr hlocks hB h dX8_word_90
    by_cases q16_4 : x2 = (4 : Int32)
    · have h := h.2.2.2.2.1 q16_4
      refine lv_tableIn (tgt := 91) hx hb dX8_word_16 (by rw [q16_4] <;> decide) (by rw [q16_4] <;> decide) (by rw [q16_4] <;> rfl) (by decide) ?_
      refine lv_aload_n hx hb dX8_word_91 rfl (lv_at hl 0 rfl) ?_
      refine lv_iload_n hx hb dX8_word_92 rfl (lv_at hl 1 rfl) ?_
      refine zz_goip hB hA (zz_runV (As := [.int x1]) (rest := []) hx hb hml hown zw hB zM_X8_152 (zc_X8_unitsOf l D ca a I2 L H.size h) zdM_0 rfl rfl hl.1 rfl (Nat.le_of_ble_eq_true rfl) rfl rfl ⟨Nat.le_of_ble_eq_true rfl, Nat.le_of_ble_eq_true rfl⟩ dX8_word_93 ⟨Nat.le_of_ble_eq_true rfl, Nat.le_of_ble_eq_true rfl⟩) (fun r93 H locs h hB => ?_)
      exact zz_iret hx hb hr hlocks hB h dX8_word_96
    by_cases q16_5 : x2 = (5 : Int32)
    · have h := h.2.2.2.2.2.1 q16_5
      refine lv_tableIn (tgt := 97) hx hb dX8_word_16 (by rw [q16_5] <;> decide) (by rw [q16_5] <;> decide) (by rw [q16_5] <;> rfl) (by decide) ?_
      refine lv_aload_n hx hb dX8_word_97 rfl (lv_at hl 0 rfl) ?_
      refine zz_getr (k' := 14) hx hb hown zw hB zF_X8_50 zdM_0 rfl rfl dX8_word_98 ?_
      refine lv_iconst (v := (1 : Int32)) hx hb dX8_word_101 (by decide) ?_
      obtain ⟨hi102, h⟩ := h
      refine zz_iald hx hb hB zdM_14 hi102 dX8_word_102 ?_
      refine lv_iload_n hx hb dX8_word_103 rfl (lv_at hl 1 rfl) ?_
      refine lv_ishr hx hb dX8_word_104 ?_
      refine lv_iconst (v := (1 : Int32)) hx hb dX8_word_105 (by decide) ?_
      refine lv_iand hx hb dX8_word_106 ?_
      exact zz_iret hx hb hr hlocks hB h dX8_word_107
    by_cases q16_6 : x2 = (6 : Int32)
    · have h := h.2.2.2.2.2.2.1 q16_6
      refine lv_tableIn (tgt := 108) hx hb dX8_word_16 (by rw [q16_6] <;> decide) (by rw [q16_6] <;> decide) (by rw [q16_6] <;> rfl) (by decide) ?_
      refine lv_aload_n hx hb dX8_word_108 rfl (lv_at hl 0 rfl) ?_
      refine zz_getr (k' := 4) hx hb hown zw hB zF_X8_19 zdM_0 rfl rfl dX8_word_109 ?_
      refine lv_iconst (v := (5 : Int32)) hx hb dX8_word_112 (by decide) ?_
      refine lv_iload_n hx hb dX8_word_113 rfl (lv_at hl 1 rfl) ?_
      refine lv_imul hx hb dX8_word_114 ?_
      refine lv_aload_n hx hb dX8_word_115 rfl (lv_at hl 0 rfl) ?_
      refine zz_getr (k' := 3) hx hb hown zw hB zF_X8_16 zdM_0 rfl rfl dX8_word_116 ?_
      refine lv_iload_n hx hb dX8_word_119 rfl (lv_at hl 1 rfl) ?_
      obtain ⟨hi120, h⟩ := h
      refine zz_iald hx hb hB zdM_3 hi120 dX8_word_120 ?_
      refine lv_iadd hx hb dX8_word_121 ?_
      refine lv_iconst (v := (1 : Int32)) hx hb dX8_word_122 (by decide) ?_
      refine lv_isub hx hb dX8_word_123 ?_
      obtain ⟨hi124, h⟩ := h
      refine zz_iald hx hb hB zdM_4 hi124 dX8_word_124 ?_
      exact zz_iret hx hb hr hlocks hB h dX8_word_125
    have h := h.2.2.2.2.2.2.2 q16_0 q16_1 q16_2 q16_3 q16_4 q16_5 q16_6
    have hts16 : x2.toInt < 0 ∨ 6 < x2.toInt := by
      have z0 := zz_ne_int q16_0
      have z1 := zz_ne_int q16_1
      have z2 := zz_ne_int q16_2
      have z3 := zz_ne_int q16_3
      have z4 := zz_ne_int q16_4
      have z5 := zz_ne_int q16_5
      have z6 := zz_ne_int q16_6
      have e0 : ((0 : Int32)).toInt = 0 ∧ ((1 : Int32)).toInt = 1 ∧ ((2 : Int32)).toInt = 2 ∧ ((3 : Int32)).toInt = 3 ∧ ((4 : Int32)).toInt = 4 ∧ ((5 : Int32)).toInt = 5 ∧ ((6 : Int32)).toInt = 6 := by decide
      omega
    refine lv_tableOut (tgt := 126) hx hb dX8_word_16 hts16 (by decide) ?_
    refine lv_bipush (v := (-2 : Int32)) hx hb dX8_word_126 (by decide) ?_
    exact zz_iret hx hb hr hlocks hB h dX8_word_128
  · have h := h.2 c10
    refine lv_iconst (v := (-1 : Int32)) hx hb dX8_word_13 (by decide) ?_
    exact zz_iret hx hb hr hlocks hB h dX8_word_14
theorem zc_X8_word (l : Launch) (D : va_G) (ca : Nat → ClassId) (a : Nat → Nat) (I : zz_I) (L : zz_L) (sz : Nat) {x1 : Int32} {x2 : Int32} {P : Int32 → zz_I → zz_L → Prop}  (h : zp_X8_word x1 x2 P I L) : Met l yX8_word [.code yX8_word cX8_word 3 (some .int)] ({ frames := 2, cells := 0, slots := 0, locals := 46 } : Room) (zz_Pre D ca zz_dM [.ref (a 0), .int x1, .int x2] a I L sz) (zz_Qi D ca zz_dM (zz_A ca zz_dM a I L sz) a P) 0 0 (zz_A ca zz_dM a I L sz) :=
  zz_start (by decide) (Nat.le_of_ble_eq_true rfl) (fun p e s m below meth c X hsz hA => zq_X8_word X hA  h)
def zp_X8_write (x1 : Int32) (P : Int32 → zz_I → zz_L → Prop) (I : zz_I) (L : zz_L) : Prop := ∀ I2 : zz_I, I2 = zz_up I 0 0 (0 : Int32) → (zp_X8_in (x1.toInt64) (0 : Int64) (255 : Int64) (fun r11 => (¬ r11 = 0 → (¬ (I2 0 2) = (110 : Int32) → vp_in (I2 0 2) 110 ∧ (∀ I41 : zz_I, I41 = zz_up I2 1 (I2 0 2).toNatClampNeg x1 → (∀ I49 : zz_I, I49 = zz_up I41 0 2 ((I41 0 2) + (1 : Int32)) → (P (I49 0 2) I49 L)))) ∧ ((I2 0 2) = (110 : Int32) → P (-4 : Int32) I2 L)) ∧ (r11 = 0 → P (-2 : Int32) I2 L)) I2 L)
set_option maxHeartbeats 4000000 in
set_option maxRecDepth 100000 in
theorem zq_X8_write {p : Program} {l : Launch} {e : Env} {s : State} {m : MethodId} {args : Array Value} {below : List Frame} {meth : Method} {c : Code} {D : va_G} {ca : Nat → ClassId} {A : Nat → Prop} {a : Nat → Nat}  {P : Int32 → zz_I → zz_L → Prop} {I : zz_I} {L : zz_L} {x1 : Int32} (X : zz_X p s m meth c cX8_write RX8 (some .int) 2) (hA : ∀ q, s.heap.size ≤ q → A q)   (h : zp_X8_write x1 P I L) : zz_Go p l e ({ frames := 1, cells := 0, slots := 0, locals := 25 } : Room) s m args below meth c 0 0 (MQ below (zz_Qi D ca zz_dM A a P) args s 0 0 A) D ca zz_dM A 2 0 a [] [(0, .ref (a 0)), (1, .int x1)] I L := by
  obtain ⟨hx, hb, hml, hown, zw, hr, hlocks⟩ := id X
  intro H locs ls hB hl
  unfold zp_X8_write at h
  refine lv_aload_n hx hb dX8_write_0 rfl (lv_at hl 0 rfl) ?_
  refine lv_iconst (v := (0 : Int32)) hx hb dX8_write_1 (by decide) ?_
  refine zz_puti hx hb hown zw hB zP_X8_94 zdM_0 rfl dX8_write_2 (fun H locs hB => ?_)
  obtain ⟨I2, eI2⟩ : ∃ z : zz_I, z = zz_up I 0 0 (0 : Int32) := ⟨_, rfl⟩
  rw [← eI2] at hB
  have h := h I2 eI2
  refine lv_iload_n hx hb dX8_write_5 rfl (lv_at hl 1 rfl) ?_
  refine lv_i2l (v := x1.toInt64) hx hb dX8_write_6 rfl ?_
  refine lv_lconst (v := (0 : Int64)) hx hb dX8_write_7 (by decide) ?_
  refine lv_ldc2 (v := (255 : Int64)) hx hb hown (zz_W_use zw zk_X8_105 rfl) dX8_write_8 ?_
  refine zz_goip hB hA (zz_runS (As := [.long (x1.toInt64), .long (0 : Int64), .long (255 : Int64)]) (rest := []) hx hb hml hown zw hB zM_X8_101 (zc_X8_in l D ca a I2 L H.size h) rfl hl.1 rfl (Nat.le_of_ble_eq_true rfl) rfl rfl ⟨Nat.le_of_ble_eq_true rfl, Nat.le_of_ble_eq_true rfl⟩ dX8_write_11 ⟨Nat.le_of_ble_eq_true rfl, Nat.le_of_ble_eq_true rfl⟩) (fun r11 H locs h hB => ?_)
  refine lv_if_ne (tgt := 20) hx hb dX8_write_14 (by decide) (fun c14 => ?_) (fun c14 => ?_)
  · have h := h.1 c14
    refine lv_aload_n hx hb dX8_write_20 rfl (lv_at hl 0 rfl) ?_
    refine zz_geti hx hb hown zw hB zF_X8_107 zdM_0 rfl dX8_write_21 ?_
    refine lv_bipush (v := (110 : Int32)) hx hb dX8_write_24 (by decide) ?_
    refine lv_icmp_ne (tgt := 32) hx hb dX8_write_26 (by decide) (fun c26 => ?_) (fun c26 => ?_)
    · have h := h.1 c26
      refine lv_aload_n hx hb dX8_write_32 rfl (lv_at hl 0 rfl) ?_
      refine zz_getr (k' := 1) hx hb hown zw hB zF_X8_7 zdM_0 rfl rfl dX8_write_33 ?_
      refine lv_aload_n hx hb dX8_write_36 rfl (lv_at hl 0 rfl) ?_
      refine zz_geti hx hb hown zw hB zF_X8_107 zdM_0 rfl dX8_write_37 ?_
      refine lv_iload_n hx hb dX8_write_40 rfl (lv_at hl 1 rfl) ?_
      obtain ⟨hi41, h⟩ := h
      refine zz_iast hx hb hB zdM_1 hi41 dX8_write_41 (fun H locs hB => ?_)
      obtain ⟨I41, eI41⟩ : ∃ z : zz_I, z = zz_up I2 1 (I2 0 2).toNatClampNeg x1 := ⟨_, rfl⟩
      rw [← eI41] at hB
      have h := h I41 eI41
      refine lv_aload_n hx hb dX8_write_42 rfl (lv_at hl 0 rfl) ?_
      refine lv_dup hx hb dX8_write_43 rfl ?_
      refine zz_geti hx hb hown zw hB zF_X8_107 zdM_0 rfl dX8_write_44 ?_
      refine lv_iconst (v := (1 : Int32)) hx hb dX8_write_47 (by decide) ?_
      refine lv_iadd hx hb dX8_write_48 ?_
      refine zz_puti hx hb hown zw hB zP_X8_107 zdM_0 rfl dX8_write_49 (fun H locs hB => ?_)
      obtain ⟨I49, eI49⟩ : ∃ z : zz_I, z = zz_up I41 0 2 ((I41 0 2) + (1 : Int32)) := ⟨_, rfl⟩
      rw [← eI49] at hB
      have h := h I49 eI49
      refine lv_aload_n hx hb dX8_write_52 rfl (lv_at hl 0 rfl) ?_
      refine zz_geti hx hb hown zw hB zF_X8_107 zdM_0 rfl dX8_write_53 ?_
      exact zz_iret hx hb hr hlocks hB h dX8_write_56
    · have h := h.2 c26
      refine lv_bipush (v := (-4 : Int32)) hx hb dX8_write_29 (by decide) ?_
      exact zz_iret hx hb hr hlocks hB h dX8_write_31
  · have h := h.2 c14
    refine lv_bipush (v := (-2 : Int32)) hx hb dX8_write_17 (by decide) ?_
    exact zz_iret hx hb hr hlocks hB h dX8_write_19
theorem zc_X8_write (l : Launch) (D : va_G) (ca : Nat → ClassId) (a : Nat → Nat) (I : zz_I) (L : zz_L) (sz : Nat) {x1 : Int32} {P : Int32 → zz_I → zz_L → Prop}  (h : zp_X8_write x1 P I L) : Met l yX8_write [.code yX8_write cX8_write 2 (some .int)] ({ frames := 1, cells := 0, slots := 0, locals := 25 } : Room) (zz_Pre D ca zz_dM [.ref (a 0), .int x1] a I L sz) (zz_Qi D ca zz_dM (zz_A ca zz_dM a I L sz) a P) 0 0 (zz_A ca zz_dM a I L sz) :=
  zz_start (by decide) (Nat.le_of_ble_eq_true rfl) (fun p e s m below meth c X hsz hA => zq_X8_write X hA  h)
