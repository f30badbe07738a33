def zp_X0_countThrough (x1 : Int32) (x2 : Int32) (P : Int64 → Prop) (I : zz_I) (L : zz_L) : Prop := ∀ v6 : Int32, v6 = (x1 * (8 : Int32)) + x2 → (zp_X0_isOpen x1 x2 (fun r10 => (r10 = 0 → P (0 : Int64)) ∧ (¬ r10 = 0 → vp_in v6 200 ∧ (vp_in v6 200 ∧ (P ((L 42 v6.toNatClampNeg) * (L 43 v6.toNatClampNeg)))))) I L)
set_option maxHeartbeats 4000000 in
set_option maxRecDepth 100000 in
theorem zq_X0_countThrough {p : Program} {l : Launch} {e : Env} {s : State} {m : MethodId} {args : Array Value} {below : List Frame} {meth : Method} {c : Code} {D : va_G} {ca : Nat → ClassId} {A : Nat → Prop} {a : Nat → Nat}  {P : Int64 → Prop} {I : zz_I} {L : zz_L} {x1 : Int32} {x2 : Int32} (X : zz_X p s m meth c cX0_countThrough RX0 (some .long) 4) (hA : ∀ q, s.heap.size ≤ q → A q)   (h : zp_X0_countThrough x1 x2 P I L) : zz_Go p l e ({ frames := 1, cells := 0, slots := 0, locals := 22 } : Room) s m args below meth c 0 0 (MQ below (zz_Ql D ca zz_dC A a (fun r I9 L9 => P r ∧ I9 = I ∧ L9 = L)) args s 0 0 A) D ca zz_dC A 4 0 a [] [(0, .ref (a 37)), (1, .int x1), (2, .int x2)] I L := by
  obtain ⟨hx, hb, hml, hown, zw, hr, hlocks⟩ := id X
  intro H locs ls hB hl
  unfold zp_X0_countThrough at h
  refine lv_iload_n hx hb dX0_countThrough_0 rfl (lv_at hl 1 rfl) ?_
  refine lv_bipush (v := (8 : Int32)) hx hb dX0_countThrough_1 (by decide) ?_
  refine lv_imul hx hb dX0_countThrough_3 ?_
  refine lv_iload_n hx hb dX0_countThrough_4 rfl (lv_at hl 2 rfl) ?_
  refine lv_iadd hx hb dX0_countThrough_5 ?_
  refine lv_topi (fun v6 ev6 => ?_)
  have h := h v6 ev6
  refine lv_istore_n (lv' := [(3, .int v6), (0, .ref (a 37)), (1, .int x1), (2, .int x2)]) hx hb dX0_countThrough_6 rfl hl (by decide) rfl (fun ls hl => ?_)
  refine lv_aload_n hx hb dX0_countThrough_7 rfl (lv_at hl 1 rfl) ?_
  refine lv_iload_n hx hb dX0_countThrough_8 rfl (lv_at hl 2 rfl) ?_
  refine lv_iload_n hx hb dX0_countThrough_9 rfl (lv_at hl 3 rfl) ?_
  refine zz_goip hB hA (zz_runV (As := [.int x1, .int x2]) (rest := []) hx hb hml hown zw hB zM_X0_106 (zc_X0_isOpen l D ca a I L H.size h) zdC_37 rfl rfl hl.1 rfl (Nat.le_of_ble_eq_true rfl) rfl rfl ⟨Nat.le_of_ble_eq_true rfl, Nat.le_of_ble_eq_true rfl⟩ dX0_countThrough_10 ⟨Nat.le_of_ble_eq_true rfl, Nat.le_of_ble_eq_true rfl⟩) (fun r10 H locs h hB => ?_)
  refine lv_if_eq (tgt := 32) hx hb dX0_countThrough_13 (by decide) (fun c13 => ?_) (fun c13 => ?_)
  · have h := h.1 c13
    refine lv_lconst (v := (0 : Int64)) hx hb dX0_countThrough_32 (by decide) ?_
    exact zz_lret hx hb hr hlocks hB ⟨h, rfl, rfl⟩ dX0_countThrough_33
  · have h := h.2 c13
    refine lv_aload_n hx hb dX0_countThrough_16 rfl (lv_at hl 1 rfl) ?_
    refine zz_getr (k' := 42) hx hb hown zw hB zF_X0_24 zdC_37 rfl rfl dX0_countThrough_17 ?_
    refine lv_iload_n hx hb dX0_countThrough_20 rfl (lv_at hl 0 rfl) ?_
    obtain ⟨hi21, h⟩ := h
    refine zz_lald hx hb hB zdC_42 hi21 dX0_countThrough_21 ?_
    refine lv_aload_n hx hb dX0_countThrough_22 rfl (lv_at hl 1 rfl) ?_
    refine zz_getr (k' := 43) hx hb hown zw hB zF_X0_28 zdC_37 rfl rfl dX0_countThrough_23 ?_
    refine lv_iload_n hx hb dX0_countThrough_26 rfl (lv_at hl 0 rfl) ?_
    obtain ⟨hi27, h⟩ := h
    refine zz_lald hx hb hB zdC_43 hi27 dX0_countThrough_27 ?_
    refine lv_lmul hx hb dX0_countThrough_28 ?_
    refine lv_goto (tgt := 33) hx hb dX0_countThrough_29 (by decide) ?_
    exact zz_lret hx hb hr hlocks hB ⟨h, rfl, rfl⟩ dX0_countThrough_33
theorem zc_X0_countThrough (l : Launch) (D : va_G) (ca : Nat → ClassId) (a : Nat → Nat) (I : zz_I) (L : zz_L) (sz : Nat) {x1 : Int32} {x2 : Int32} {P : Int64 → Prop}  (h : zp_X0_countThrough x1 x2 P I L) : Met l yX0_countThrough [.code yX0_countThrough cX0_countThrough 4 (some .long)] ({ frames := 1, cells := 0, slots := 0, locals := 22 } : Room) (zz_Pre D ca zz_dC [.ref (a 37), .int x1, .int x2] a I L sz) (zz_Ql D ca zz_dC (zz_A ca zz_dC a I L sz) a (fun r I9 L9 => P r ∧ I9 = I ∧ L9 = L)) 0 0 (zz_A ca zz_dC a I L sz) :=
  zz_start (by decide) (Nat.le_of_ble_eq_true rfl) (fun p e s m below meth c X hsz hA => zq_X0_countThrough X hA  h)
def zp_X0_countSign_24b (K6 : Int64 → Int32 → Prop) (K24 : Int64 → Int32 → Prop) (P : Int64 → Prop) (x2 : Int32) (x3 : Int32) (x4 : Int64) (x6 : Int32) (x7 : Int32) (I : zz_I) (L : zz_L) : Prop := ((I 37 7) ≤ x7 → ∀ v77 : Int32, v77 = x6 + (1 : Int32) → (K6 x4 v77)) ∧ (¬ (I 37 7) ≤ x7 → zp_X0_isOpen x6 x7 (fun r38 => (r38 = 0 → ∀ v71 : Int32, v71 = x7 + (1 : Int32) → (K24 x4 v71)) ∧ (¬ r38 = 0 → zp_X2_signBehind x7 (x2 - x6) (fun r51 => (¬ r51 = x3 → ∀ v71 : Int32, v71 = x7 + (1 : Int32) → (K24 x4 v71)) ∧ (r51 = x3 → zp_X0_countThrough x6 x7 (fun r65 => ∀ v69 : Int64, v69 = x4 + r65 → (∀ v71 : Int32, v71 = x7 + (1 : Int32) → (K24 v69 v71))) I L)) I L)) I L)
set_option maxHeartbeats 4000000 in
set_option maxRecDepth 100000 in
theorem zq_X0_countSign_24b {p : Program} {l : Launch} {e : Env} {s : State} {m : MethodId} {args : Array Value} {below : List Frame} {meth : Method} {c : Code} {D : va_G} {ca : Nat → ClassId} {A : Nat → Prop} {a : Nat → Nat} {K6 : Int64 → Int32 → Prop} {K24 : Int64 → Int32 → Prop} {P : Int64 → Prop} {I : zz_I} {L : zz_L} {x2 : Int32} {x3 : Int32} {x4 : Int64} {x6 : Int32} {x7 : Int32} (X : zz_X p s m meth c cX0_countSign RX0 (some .long) 8) (hA : ∀ q, s.heap.size ≤ q → A q)  (hK6 : ∀ (y4 : Int64) (y6 : Int32), K6 y4 y6 → zz_Go p l e ({ frames := 2, cells := 0, slots := 0, locals := 48 } : Room) s m args below meth c 0 0 (MQ below (zz_Ql D ca zz_dC A a (fun r I9 L9 => P r ∧ I9 = I ∧ L9 = L)) args s 0 0 A) D ca zz_dC A 8 6 a [] [(0, .ref (a 37)), (1, .ref (a 14)), (2, .int x2), (3, .int x3), (4, .long y4), (6, .int y6)] I L) (hK24 : ∀ (y4 : Int64) (y7 : Int32), K24 y4 y7 → zz_Go p l e ({ frames := 2, cells := 0, slots := 0, locals := 48 } : Room) s m args below meth c 0 0 (MQ below (zz_Ql D ca zz_dC A a (fun r I9 L9 => P r ∧ I9 = I ∧ L9 = L)) args s 0 0 A) D ca zz_dC A 8 24 a [] [(0, .ref (a 37)), (1, .ref (a 14)), (2, .int x2), (3, .int x3), (4, .long y4), (6, .int x6), (7, .int y7)] I L) (h : zp_X0_countSign_24b K6 K24 P x2 x3 x4 x6 x7 I L) : zz_Go p l e ({ frames := 2, cells := 0, slots := 0, locals := 48 } : Room) s m args below meth c 0 0 (MQ below (zz_Ql D ca zz_dC A a (fun r I9 L9 => P r ∧ I9 = I ∧ L9 = L)) args s 0 0 A) D ca zz_dC A 8 24 a [] [(0, .ref (a 37)), (1, .ref (a 14)), (2, .int x2), (3, .int x3), (4, .long x4), (6, .int x6), (7, .int x7)] I L := by
  obtain ⟨hx, hb, hml, hown, zw, hr, hlocks⟩ := id X
  intro H locs ls hB hl
  unfold zp_X0_countSign_24b at h
  refine lv_iload hx hb dX0_countSign_24 (lv_at hl 6 rfl) ?_
  refine lv_aload_n hx hb dX0_countSign_26 rfl (lv_at hl 0 rfl) ?_
  refine zz_geti hx hb hown zw hB zF_X0_35 zdC_37 rfl dX0_countSign_27 ?_
  refine lv_icmp_ge (tgt := 77) hx hb dX0_countSign_30 (by decide) (fun c30 => ?_) (fun c30 => ?_)
  · have h := h.1 c30
    obtain ⟨v77, ev77⟩ : ∃ z : Int32, z = x6 + (1 : Int32) := ⟨_, rfl⟩
    have h := h v77 ev77
    refine lv_iinc (v := v77) (lv' := [(6, .int v77), (0, .ref (a 37)), (1, .ref (a 14)), (2, .int x2), (3, .int x3), (4, .long x4), (7, .int x7)]) hx hb dX0_countSign_77 hl (k := 5) rfl (by rw [ev77]; rfl) (by decide) rfl (fun ls hl => ?_)
    refine lv_goto (tgt := 6) hx hb dX0_countSign_80 (by decide) ?_
    exact hK6 _ _ h H locs ls hB (lv_sub hl [1, 2, 3, 4, 5, 0] rfl)
  · have h := h.2 c30
    refine lv_aload_n hx hb dX0_countSign_33 rfl (lv_at hl 0 rfl) ?_
    refine lv_iload hx hb dX0_countSign_34 (lv_at hl 5 rfl) ?_
    refine lv_iload hx hb dX0_countSign_36 (lv_at hl 6 rfl) ?_
    refine zz_goip hB hA (zz_runV (As := [.int x6, .int x7]) (rest := []) hx hb hml hown zw hB zM_X0_106 (zc_X0_isOpen l D ca a I L H.size h) zdC_37 rfl rfl hl.1 rfl (Nat.le_of_ble_eq_true rfl) rfl rfl ⟨Nat.le_of_ble_eq_true rfl, Nat.le_of_ble_eq_true rfl⟩ dX0_countSign_38 ⟨Nat.le_of_ble_eq_true rfl, Nat.le_of_ble_eq_true rfl⟩) (fun r38 H locs h hB => ?_)
    refine lv_if_eq (tgt := 71) hx hb dX0_countSign_41 (by decide) (fun c41 => ?_) (fun c41 => ?_)
    · have h := h.1 c41
      obtain ⟨v71, ev71⟩ : ∃ z : Int32, z = x7 + (1 : Int32) := ⟨_, rfl⟩
      have h := h v71 ev71
      refine lv_iinc (v := v71) (lv' := [(7, .int v71), (0, .ref (a 37)), (1, .ref (a 14)), (2, .int x2), (3, .int x3), (4, .long x4), (6, .int x6)]) hx hb dX0_countSign_71 hl (k := 6) rfl (by rw [ev71]; rfl) (by decide) rfl (fun ls hl => ?_)
      refine lv_goto (tgt := 24) hx hb dX0_countSign_74 (by decide) ?_
      exact hK24 _ _ h H locs ls hB (lv_sub hl [1, 2, 3, 4, 5, 6, 0] rfl)
    · have h := h.2 c41
      refine lv_aload_n hx hb dX0_countSign_44 rfl (lv_at hl 1 rfl) ?_
      refine lv_iload hx hb dX0_countSign_45 (lv_at hl 6 rfl) ?_
      refine lv_iload_n hx hb dX0_countSign_47 rfl (lv_at hl 2 rfl) ?_
      refine lv_iload hx hb dX0_countSign_48 (lv_at hl 5 rfl) ?_
      refine lv_isub hx hb dX0_countSign_50 ?_
      refine zz_goip hB hA (zz_runV (As := [.int x7, .int (x2 - x6)]) (rest := []) hx hb hml hown zw hB zM_X0_128 (zc_X2_signBehind l D ca a I L H.size h) zdC_14 rfl rfl hl.1 rfl (Nat.le_of_ble_eq_true rfl) rfl rfl ⟨Nat.le_of_ble_eq_true rfl, Nat.le_of_ble_eq_true rfl⟩ dX0_countSign_51 ⟨Nat.le_of_ble_eq_true rfl, Nat.le_of_ble_eq_true rfl⟩) (fun r51 H locs h hB => ?_)
      refine lv_iload_n hx hb dX0_countSign_54 rfl (lv_at hl 3 rfl) ?_
      refine lv_icmp_ne (tgt := 71) hx hb dX0_countSign_55 (by decide) (fun c55 => ?_) (fun c55 => ?_)
      · have h := h.1 c55
        obtain ⟨v71, ev71⟩ : ∃ z : Int32, z = x7 + (1 : Int32) := ⟨_, rfl⟩
        have h := h v71 ev71
        refine lv_iinc (v := v71) (lv' := [(7, .int v71), (0, .ref (a 37)), (1, .ref (a 14)), (2, .int x2), (3, .int x3), (4, .long x4), (6, .int x6)]) hx hb dX0_countSign_71 hl (k := 6) rfl (by rw [ev71]; rfl) (by decide) rfl (fun ls hl => ?_)
        refine lv_goto (tgt := 24) hx hb dX0_countSign_74 (by decide) ?_
        exact hK24 _ _ h H locs ls hB (lv_sub hl [1, 2, 3, 4, 5, 6, 0] rfl)
      · have h := h.2 c55
        refine lv_lload hx hb dX0_countSign_58 (lv_at hl 4 rfl) ?_
        refine lv_aload_n hx hb dX0_countSign_60 rfl (lv_at hl 0 rfl) ?_
        refine lv_iload hx hb dX0_countSign_61 (lv_at hl 5 rfl) ?_
        refine lv_iload hx hb dX0_countSign_63 (lv_at hl 6 rfl) ?_
        refine zz_golp hB hA (zz_runV (As := [.int x6, .int x7]) (rest := [.long x4]) hx hb hml hown zw hB zM_X0_131 (zc_X0_countThrough l D ca a I L H.size h) zdC_37 rfl rfl hl.1 rfl (Nat.le_of_ble_eq_true rfl) rfl rfl ⟨Nat.le_of_ble_eq_true rfl, Nat.le_of_ble_eq_true rfl⟩ dX0_countSign_65 ⟨Nat.le_of_ble_eq_true rfl, Nat.le_of_ble_eq_true rfl⟩) (fun r65 H locs h hB => ?_)
        refine lv_ladd hx hb dX0_countSign_68 ?_
        refine lv_topl (fun v69 ev69 => ?_)
        have h := h v69 ev69
        refine lv_lstore (lv' := [(4, .long v69), (0, .ref (a 37)), (1, .ref (a 14)), (2, .int x2), (3, .int x3), (6, .int x6), (7, .int x7)]) hx hb dX0_countSign_69 hl (by decide) rfl (fun ls hl => ?_)
        obtain ⟨v71, ev71⟩ : ∃ z : Int32, z = x7 + (1 : Int32) := ⟨_, rfl⟩
        have h := h v71 ev71
        refine lv_iinc (v := v71) (lv' := [(7, .int v71), (4, .long v69), (0, .ref (a 37)), (1, .ref (a 14)), (2, .int x2), (3, .int x3), (6, .int x6)]) hx hb dX0_countSign_71 hl (k := 6) rfl (by rw [ev71]; rfl) (by decide) rfl (fun ls hl => ?_)
        refine lv_goto (tgt := 24) hx hb dX0_countSign_74 (by decide) ?_
        exact hK24 _ _ h H locs ls hB (lv_sub hl [2, 3, 4, 5, 1, 6, 0] rfl)
def zp_X0_countSign_24 (K6 : Int64 → Int32 → Prop) (P : Int64 → Prop) (x2 : Int32) (x3 : Int32) (x4 : Int64) (x6 : Int32) (x7 : Int32) (I : zz_I) (L : zz_L) : Prop := ∃ (Inv : Int64 → Int32 → Prop) (μ : Int64 → Int32 → Nat), Inv x4 x7 ∧ ∀ (y4 : Int64) (y7 : Int32), Inv y4 y7 → zp_X0_countSign_24b K6 (fun z4 z7 => Inv z4 z7 ∧ μ z4 z7 < μ y4 y7) P x2 x3 y4 x6 y7 I L
set_option maxHeartbeats 4000000 in
set_option maxRecDepth 100000 in
theorem zq_X0_countSign_24 {p : Program} {l : Launch} {e : Env} {s : State} {m : MethodId} {args : Array Value} {below : List Frame} {meth : Method} {c : Code} {D : va_G} {ca : Nat → ClassId} {A : Nat → Prop} {a : Nat → Nat} {K6 : Int64 → Int32 → Prop} {P : Int64 → Prop} {I : zz_I} {L : zz_L} {x2 : Int32} {x3 : Int32} {x4 : Int64} {x6 : Int32} {x7 : Int32} (X : zz_X p s m meth c cX0_countSign RX0 (some .long) 8) (hA : ∀ q, s.heap.size ≤ q → A q)  (hK6 : ∀ (y4 : Int64) (y6 : Int32), K6 y4 y6 → zz_Go p l e ({ frames := 2, cells := 0, slots := 0, locals := 48 } : Room) s m args below meth c 0 0 (MQ below (zz_Ql D ca zz_dC A a (fun r I9 L9 => P r ∧ I9 = I ∧ L9 = L)) args s 0 0 A) D ca zz_dC A 8 6 a [] [(0, .ref (a 37)), (1, .ref (a 14)), (2, .int x2), (3, .int x3), (4, .long y4), (6, .int y6)] I L) (h : zp_X0_countSign_24 K6 P x2 x3 x4 x6 x7 I L) : zz_Go p l e ({ frames := 2, cells := 0, slots := 0, locals := 48 } : Room) s m args below meth c 0 0 (MQ below (zz_Ql D ca zz_dC A a (fun r I9 L9 => P r ∧ I9 = I ∧ L9 = L)) args s 0 0 A) D ca zz_dC A 8 24 a [] [(0, .ref (a 37)), (1, .ref (a 14)), (2, .int x2), (3, .int x3), (4, .long x4), (6, .int x6), (7, .int x7)] I L := by
  unfold zp_X0_countSign_24 at h
  obtain ⟨Inv, μ, hv0, hs⟩ := h
  have key : ∀ (n9 : Nat) (y4 : Int64) (y7 : Int32), μ y4 y7 < n9 → Inv y4 y7 → zz_Go p l e ({ frames := 2, cells := 0, slots := 0, locals := 48 } : Room) s m args below meth c 0 0 (MQ below (zz_Ql D ca zz_dC A a (fun r I9 L9 => P r ∧ I9 = I ∧ L9 = L)) args s 0 0 A) D ca zz_dC A 8 24 a [] [(0, .ref (a 37)), (1, .ref (a 14)), (2, .int x2), (3, .int x3), (4, .long y4), (6, .int x6), (7, .int y7)] I L := by
    intro n9
    induction n9 with
    | zero => intro y4 y7 hn; exact absurd hn (Nat.not_lt_zero _)
    | succ n9 ih =>
      intro y4 y7 hn hi
      exact zq_X0_countSign_24b (K24 := (fun z4 z7 => Inv z4 z7 ∧ μ z4 z7 < μ y4 y7)) X hA  hK6 (fun z4 z7 hz => ih z4 z7 (Nat.lt_of_lt_of_le hz.2 (Nat.le_of_lt_succ hn)) hz.1) (hs y4 y7 hi)
  exact key _ x4 x7 (Nat.lt_succ_self _) hv0
def zp_X0_countSign_6b (K6 : Int64 → Int32 → Prop) (P : Int64 → Prop) (x2 : Int32) (x3 : Int32) (x4 : Int64) (x6 : Int32) (I : zz_I) (L : zz_L) : Prop := (x2 < x6 → P x4) ∧ (¬ x2 < x6 → ((I 37 6) ≤ x6 → P x4) ∧ (¬ (I 37 6) ≤ x6 → zp_X0_countSign_24 K6 P x2 x3 x4 x6 (0 : Int32) I L))
set_option maxHeartbeats 4000000 in
set_option maxRecDepth 100000 in
theorem zq_X0_countSign_6b {p : Program} {l : Launch} {e : Env} {s : State} {m : MethodId} {args : Array Value} {below : List Frame} {meth : Method} {c : Code} {D : va_G} {ca : Nat → ClassId} {A : Nat → Prop} {a : Nat → Nat} {K6 : Int64 → Int32 → Prop} {P : Int64 → Prop} {I : zz_I} {L : zz_L} {x2 : Int32} {x3 : Int32} {x4 : Int64} {x6 : Int32} (X : zz_X p s m meth c cX0_countSign RX0 (some .long) 8) (hA : ∀ q, s.heap.size ≤ q → A q)  (hK6 : ∀ (y4 : Int64) (y6 : Int32), K6 y4 y6 → zz_Go p l e ({ frames := 2, cells := 0, slots := 0, locals := 48 } : Room) s m args below meth c 0 0 (MQ below (zz_Ql D ca zz_dC A a (fun r I9 L9 => P r ∧ I9 = I ∧ L9 = L)) args s 0 0 A) D ca zz_dC A 8 6 a [] [(0, .ref (a 37)), (1, .ref (a 14)), (2, .int x2), (3, .int x3), (4, .long y4), (6, .int y6)] I L) (h : zp_X0_countSign_6b K6 P x2 x3 x4 x6 I L) : zz_Go p l e ({ frames := 2, cells := 0, slots := 0, locals := 48 } : Room) s m args below meth c 0 0 (MQ below (zz_Ql D ca zz_dC A a (fun r I9 L9 => P r ∧ I9 = I ∧ L9 = L)) args s 0 0 A) D ca zz_dC A 8 6 a [] [(0, .ref (a 37)), (1, .ref (a 14)), (2, .int x2), (3, .int x3), (4, .long x4), (6, .int x6)] I L := by
  obtain ⟨hx, hb, hml, hown, zw, hr, hlocks⟩ := id X
  intro H locs ls hB hl
  unfold zp_X0_countSign_6b at h
  refine lv_iload hx hb dX0_countSign_6 (lv_at hl 5 rfl) ?_
  refine lv_iload_n hx hb dX0_countSign_8 rfl (lv_at hl 2 rfl) ?_
  refine lv_icmp_gt (tgt := 83) hx hb dX0_countSign_9 (by decide) (fun c9 => ?_) (fun c9 => ?_)
  · have h := h.1 c9
    refine lv_lload hx hb dX0_countSign_83 (lv_at hl 4 rfl) ?_
    exact zz_lret hx hb hr hlocks hB ⟨h, rfl, rfl⟩ dX0_countSign_85
  · have h := h.2 c9
    refine lv_iload hx hb dX0_countSign_12 (lv_at hl 5 rfl) ?_
    refine lv_aload_n hx hb dX0_countSign_14 rfl (lv_at hl 0 rfl) ?_
    refine zz_geti hx hb hown zw hB zF_X0_31 zdC_37 rfl dX0_countSign_15 ?_
    refine lv_icmp_ge (tgt := 83) hx hb dX0_countSign_18 (by decide) (fun c18 => ?_) (fun c18 => ?_)
    · have h := h.1 c18
      refine lv_lload hx hb dX0_countSign_83 (lv_at hl 4 rfl) ?_
      exact zz_lret hx hb hr hlocks hB ⟨h, rfl, rfl⟩ dX0_countSign_85
    · have h := h.2 c18
      refine lv_iconst (v := (0 : Int32)) hx hb dX0_countSign_21 (by decide) ?_
      refine lv_istore (lv' := [(7, .int (0 : Int32)), (0, .ref (a 37)), (1, .ref (a 14)), (2, .int x2), (3, .int x3), (4, .long x4), (6, .int x6)]) hx hb dX0_countSign_22 hl (by decide) rfl (fun ls hl => ?_)
      exact zq_X0_countSign_24 X hA hK6 h H locs ls hB (lv_sub hl [1, 2, 3, 4, 5, 6, 0] rfl)
def zp_X0_countSign_6  (P : Int64 → Prop) (x2 : Int32) (x3 : Int32) (x4 : Int64) (x6 : Int32) (I : zz_I) (L : zz_L) : Prop := ∃ (Inv : Int64 → Int32 → Prop) (μ : Int64 → Int32 → Nat), Inv x4 x6 ∧ ∀ (y4 : Int64) (y6 : Int32), Inv y4 y6 → zp_X0_countSign_6b  (fun z4 z6 => Inv z4 z6 ∧ μ z4 z6 < μ y4 y6) P x2 x3 y4 y6 I L
set_option maxHeartbeats 4000000 in
set_option maxRecDepth 100000 in
theorem zq_X0_countSign_6 {p : Program} {l : Launch} {e : Env} {s : State} {m : MethodId} {args : Array Value} {below : List Frame} {meth : Method} {c : Code} {D : va_G} {ca : Nat → ClassId} {A : Nat → Prop} {a : Nat → Nat}  {P : Int64 → Prop} {I : zz_I} {L : zz_L} {x2 : Int32} {x3 : Int32} {x4 : Int64} {x6 : Int32} (X : zz_X p s m meth c cX0_countSign RX0 (some .long) 8) (hA : ∀ q, s.heap.size ≤ q → A q)   (h : zp_X0_countSign_6  P x2 x3 x4 x6 I L) : zz_Go p l e ({ frames := 2, cells := 0, slots := 0, locals := 48 } : Room) s m args below meth c 0 0 (MQ below (zz_Ql D ca zz_dC A a (fun r I9 L9 => P r ∧ I9 = I ∧ L9 = L)) args s 0 0 A) D ca zz_dC A 8 6 a [] [(0, .ref (a 37)), (1, .ref (a 14)), (2, .int x2), (3, .int x3), (4, .long x4), (6, .int x6)] I L := by
  unfold zp_X0_countSign_6 at h
  obtain ⟨Inv, μ, hv0, hs⟩ := h
  have key : ∀ (n9 : Nat) (y4 : Int64) (y6 : Int32), μ y4 y6 < n9 → Inv y4 y6 → zz_Go p l e ({ frames := 2, cells := 0, slots := 0, locals := 48 } : Room) s m args below meth c 0 0 (MQ below (zz_Ql D ca zz_dC A a (fun r I9 L9 => P r ∧ I9 = I ∧ L9 = L)) args s 0 0 A) D ca zz_dC A 8 6 a [] [(0, .ref (a 37)), (1, .ref (a 14)), (2, .int x2), (3, .int x3), (4, .long y4), (6, .int y6)] I L := by
    intro n9
    induction n9 with
    | zero => intro y4 y6 hn; exact absurd hn (Nat.not_lt_zero _)
    | succ n9 ih =>
      intro y4 y6 hn hi
      exact zq_X0_countSign_6b (K6 := (fun z4 z6 => Inv z4 z6 ∧ μ z4 z6 < μ y4 y6)) X hA   (fun z4 z6 hz => ih z4 z6 (Nat.lt_of_lt_of_le hz.2 (Nat.le_of_lt_succ hn)) hz.1) (hs y4 y6 hi)
  exact key _ x4 x6 (Nat.lt_succ_self _) hv0
def zp_X0_countSign (x2 : Int32) (x3 : Int32) (P : Int64 → Prop) (I : zz_I) (L : zz_L) : Prop := zp_X0_countSign_6 P x2 x3 (0 : Int64) (0 : Int32) I L
set_option maxHeartbeats 4000000 in
set_option maxRecDepth 100000 in
theorem zq_X0_countSign {p : Program} {l : Launch} {e : Env} {s : State} {m : MethodId} {args : Array Value} {below : List Frame} {meth : Method} {c : Code} {D : va_G} {ca : Nat → ClassId} {A : Nat → Prop} {a : Nat → Nat}  {P : Int64 → Prop} {I : zz_I} {L : zz_L} {x2 : Int32} {x3 : Int32} (X : zz_X p s m meth c cX0_countSign RX0 (some .long) 8) (hA : ∀ q, s.heap.size ≤ q → A q)   (h : zp_X0_countSign x2 x3 P I L) : zz_Go p l e ({ frames := 2, cells := 0, slots := 0, locals := 48 } : Room) s m args below meth c 0 0 (MQ below (zz_Ql D ca zz_dC A a (fun r I9 L9 => P r ∧ I9 = I ∧ L9 = L)) args s 0 0 A) D ca zz_dC A 8 0 a [] [(0, .ref (a 37)), (1, .ref (a 14)), (2, .int x2), (3, .int x3)] I L := by
  obtain ⟨hx, hb, hml, hown, zw, hr, hlocks⟩ := id X
  intro H locs ls hB hl
  unfold zp_X0_countSign at h
  refine lv_lconst (v := (0 : Int64)) hx hb dX0_countSign_0 (by decide) ?_
  refine lv_lstore (lv' := [(4, .long (0 : Int64)), (0, .ref (a 37)), (1, .ref (a 14)), (2, .int x2), (3, .int x3)]) hx hb dX0_countSign_1 hl (by decide) rfl (fun ls hl => ?_)
  refine lv_iconst (v := (0 : Int32)) hx hb dX0_countSign_3 (by decide) ?_
  refine lv_istore (lv' := [(6, .int (0 : Int32)), (4, .long (0 : Int64)), (0, .ref (a 37)), (1, .ref (a 14)), (2, .int x2), (3, .int x3)]) hx hb dX0_countSign_4 hl (by decide) rfl (fun ls hl => ?_)
  exact zq_X0_countSign_6 X hA  h H locs ls hB (lv_sub hl [2, 3, 4, 5, 1, 0] rfl)
theorem zc_X0_countSign (l : Launch) (D : va_G) (ca : Nat → ClassId) (a : Nat → Nat) (I : zz_I) (L : zz_L) (sz : Nat) {x2 : Int32} {x3 : Int32} {P : Int64 → Prop}  (h : zp_X0_countSign x2 x3 P I L) : Met l yX0_countSign [.code yX0_countSign cX0_countSign 8 (some .long)] ({ frames := 2, cells := 0, slots := 0, locals := 48 } : Room) (zz_Pre D ca zz_dC [.ref (a 37), .ref (a 14), .int x2, .int x3] a I L sz) (zz_Ql D ca zz_dC (zz_A ca zz_dC a I L sz) a (fun r I9 L9 => P r ∧ I9 = I ∧ L9 = L)) 0 0 (zz_A ca zz_dC a I L sz) :=
  zz_start (by decide) (Nat.le_of_ble_eq_true rfl) (fun p e s m below meth c X hsz hA => zq_X0_countSign X hA  h)
def zp_X1_forget  (P : zz_I → zz_L → Prop) (I : zz_I) (L : zz_L) : Prop := ∀ I2 : zz_I, I2 = zz_up I 29 3 (0 : Int32) → (∀ I7 : zz_I, I7 = zz_up I2 29 4 (0 : Int32) → (P I7 L))
set_option maxHeartbeats 4000000 in
set_option maxRecDepth 100000 in
theorem zq_X1_forget {p : Program} {l : Launch} {e : Env} {s : State} {m : MethodId} {args : Array Value} {below : List Frame} {meth : Method} {c : Code} {D : va_G} {ca : Nat → ClassId} {A : Nat → Prop} {a : Nat → Nat}  {P : zz_I → zz_L → Prop} {I : zz_I} {L : zz_L}  (X : zz_X p s m meth c cX1_forget RX1 none 1) (hA : ∀ q, s.heap.size ≤ q → A q)   (h : zp_X1_forget  P I L) : zz_Go p l e ({ frames := 0, cells := 0, slots := 0, locals := 0 } : Room) s m args below meth c 0 0 (MQ below (zz_Qv D ca zz_dC A a P) args s 0 0 A) D ca zz_dC A 1 0 a [] [(0, .ref (a 29))] I L := by
  obtain ⟨hx, hb, hml, hown, zw, hr, hlocks⟩ := id X
  intro H locs ls hB hl
  unfold zp_X1_forget at h
  refine lv_aload_n hx hb dX1_forget_0 rfl (lv_at hl 0 rfl) ?_
  refine lv_iconst (v := (0 : Int32)) hx hb dX1_forget_1 (by decide) ?_
  refine zz_puti hx hb hown zw hB zP_X1_21 zdC_29 rfl dX1_forget_2 (fun H locs hB => ?_)
  obtain ⟨I2, eI2⟩ : ∃ z : zz_I, z = zz_up I 29 3 (0 : Int32) := ⟨_, rfl⟩
  rw [← eI2] at hB
  have h := h I2 eI2
  refine lv_aload_n hx hb dX1_forget_5 rfl (lv_at hl 0 rfl) ?_
  refine lv_iconst (v := (0 : Int32)) hx hb dX1_forget_6 (by decide) ?_
  refine zz_puti hx hb hown zw hB zP_X1_25 zdC_29 rfl dX1_forget_7 (fun H locs hB => ?_)
  obtain ⟨I7, eI7⟩ : ∃ z : zz_I, z = zz_up I2 29 4 (0 : Int32) := ⟨_, rfl⟩
  rw [← eI7] at hB
  have h := h I7 eI7
  exact zz_vret hx hb hr hlocks hB h dX1_forget_10
theorem zc_X1_forget (l : Launch) (D : va_G) (ca : Nat → ClassId) (a : Nat → Nat) (I : zz_I) (L : zz_L) (sz : Nat)  {P : zz_I → zz_L → Prop}  (h : zp_X1_forget  P I L) : Met l yX1_forget [.code yX1_forget cX1_forget 1 none] ({ frames := 0, cells := 0, slots := 0, locals := 0 } : Room) (zz_Pre D ca zz_dC [.ref (a 29)] a I L sz) (zz_Qv D ca zz_dC (zz_A ca zz_dC a I L sz) a P) 0 0 (zz_A ca zz_dC a I L sz) :=
  zz_start (by decide) (Nat.le_of_ble_eq_true rfl) (fun p e s m below meth c X hsz hA => zq_X1_forget X hA  h)
def zp_X1_record (x1 : Int32) (x2 : Int32) (x3 : Int32) (P : zz_I → zz_L → Prop) (I : zz_I) (L : zz_L) : Prop := ((I 29 4) < 0 → P I L) ∧ (¬ (I 29 4) < 0 → ((I 29 4) < (14 : Int32) → vp_in (I 29 4) 14 ∧ (∀ I26 : zz_I, I26 = zz_up I 30 (I 29 4).toNatClampNeg x1 → (vp_in (I26 29 4) 14 ∧ (∀ I36 : zz_I, I36 = zz_up I26 31 (I26 29 4).toNatClampNeg x2 → (vp_in (I36 29 4) 14 ∧ (∀ I46 : zz_I, I46 = zz_up I36 32 (I36 29 4).toNatClampNeg x3 → (∀ I57 : zz_I, I57 = zz_up I46 29 4 (((I46 29 4) + (1 : Int32)) - ((I46 29 4) + (1 : Int32)) / (14 : Int32) * (14 : Int32)) → (∀ I72 : zz_I, I72 = zz_up I57 29 3 (if (14 : Int32) < ((I57 29 3) + (1 : Int32)) then (14 : Int32) else ((I57 29 3) + (1 : Int32))) → (P I72 L))))))))) ∧ (¬ (I 29 4) < (14 : Int32) → P I L))
set_option maxHeartbeats 4000000 in
set_option maxRecDepth 100000 in
theorem zq_X1_record {p : Program} {l : Launch} {e : Env} {s : State} {m : MethodId} {args : Array Value} {below : List Frame} {meth : Method} {c : Code} {D : va_G} {ca : Nat → ClassId} {A : Nat → Prop} {a : Nat → Nat}  {P : zz_I → zz_L → Prop} {I : zz_I} {L : zz_L} {x1 : Int32} {x2 : Int32} {x3 : Int32} (X : zz_X p s m meth c cX1_record RX1 none 4) (hA : ∀ q, s.heap.size ≤ q → A q)   (h : zp_X1_record x1 x2 x3 P I L) : zz_Go p l e ({ frames := 1, cells := 0, slots := 0, locals := 21 } : Room) s m args below meth c 0 0 (MQ below (zz_Qv D ca zz_dC A a P) args s 0 0 A) D ca zz_dC A 4 0 a [] [(0, .ref (a 29)), (1, .int x1), (2, .int x2), (3, .int x3)] I L := by
  obtain ⟨hx, hb, hml, hown, zw, hr, hlocks⟩ := id X
  intro H locs ls hB hl
  unfold zp_X1_record at h
  refine lv_aload_n hx hb dX1_record_0 rfl (lv_at hl 0 rfl) ?_
  refine zz_geti hx hb hown zw hB zF_X1_25 zdC_29 rfl dX1_record_1 ?_
  refine lv_if_lt (tgt := 16) hx hb dX1_record_4 (by decide) (fun c4 => ?_) (fun c4 => ?_)
  · have h := h.1 c4
    exact zz_vret hx hb hr hlocks hB h dX1_record_16
  · have h := h.2 c4
    refine lv_aload_n hx hb dX1_record_7 rfl (lv_at hl 0 rfl) ?_
    refine zz_geti hx hb hown zw hB zF_X1_25 zdC_29 rfl dX1_record_8 ?_
    refine lv_bipush (v := (14 : Int32)) hx hb dX1_record_11 (by decide) ?_
    refine lv_icmp_lt (tgt := 17) hx hb dX1_record_13 (by decide) (fun c13 => ?_) (fun c13 => ?_)
    · have h := h.1 c13
      refine lv_aload_n hx hb dX1_record_17 rfl (lv_at hl 0 rfl) ?_
      refine zz_getr (k' := 30) hx hb hown zw hB zF_X1_9 zdC_29 rfl rfl dX1_record_18 ?_
      refine lv_aload_n hx hb dX1_record_21 rfl (lv_at hl 0 rfl) ?_
      refine zz_geti hx hb hown zw hB zF_X1_25 zdC_29 rfl dX1_record_22 ?_
      refine lv_iload_n hx hb dX1_record_25 rfl (lv_at hl 1 rfl) ?_
      obtain ⟨hi26, h⟩ := h
      refine zz_iast hx hb hB zdC_30 hi26 dX1_record_26 (fun H locs hB => ?_)
      obtain ⟨I26, eI26⟩ : ∃ z : zz_I, z = zz_up I 30 (I 29 4).toNatClampNeg x1 := ⟨_, rfl⟩
      rw [← eI26] at hB
      have h := h I26 eI26
      refine lv_aload_n hx hb dX1_record_27 rfl (lv_at hl 0 rfl) ?_
      refine zz_getr (k' := 31) hx hb hown zw hB zF_X1_15 zdC_29 rfl rfl dX1_record_28 ?_
      refine lv_aload_n hx hb dX1_record_31 rfl (lv_at hl 0 rfl) ?_
      refine zz_geti hx hb hown zw hB zF_X1_25 zdC_29 rfl dX1_record_32 ?_
      refine lv_iload_n hx hb dX1_record_35 rfl (lv_at hl 2 rfl) ?_
      obtain ⟨hi36, h⟩ := h
      refine zz_iast hx hb hB zdC_31 hi36 dX1_record_36 (fun H locs hB => ?_)
      obtain ⟨I36, eI36⟩ : ∃ z : zz_I, z = zz_up I26 31 (I26 29 4).toNatClampNeg x2 := ⟨_, rfl⟩
      rw [← eI36] at hB
      have h := h I36 eI36
      refine lv_aload_n hx hb dX1_record_37 rfl (lv_at hl 0 rfl) ?_
      refine zz_getr (k' := 32) hx hb hown zw hB zF_X1_18 zdC_29 rfl rfl dX1_record_38 ?_
      refine lv_aload_n hx hb dX1_record_41 rfl (lv_at hl 0 rfl) ?_
      refine zz_geti hx hb hown zw hB zF_X1_25 zdC_29 rfl dX1_record_42 ?_
      refine lv_iload_n hx hb dX1_record_45 rfl (lv_at hl 3 rfl) ?_
      obtain ⟨hi46, h⟩ := h
      refine zz_iast hx hb hB zdC_32 hi46 dX1_record_46 (fun H locs hB => ?_)
      obtain ⟨I46, eI46⟩ : ∃ z : zz_I, z = zz_up I36 32 (I36 29 4).toNatClampNeg x3 := ⟨_, rfl⟩
      rw [← eI46] at hB
      have h := h I46 eI46
      refine lv_aload_n hx hb dX1_record_47 rfl (lv_at hl 0 rfl) ?_
      refine lv_aload_n hx hb dX1_record_48 rfl (lv_at hl 0 rfl) ?_
      refine zz_geti hx hb hown zw hB zF_X1_25 zdC_29 rfl dX1_record_49 ?_
      refine lv_iconst (v := (1 : Int32)) hx hb dX1_record_52 (by decide) ?_
      refine lv_iadd hx hb dX1_record_53 ?_
      refine lv_bipush (v := (14 : Int32)) hx hb dX1_record_54 (by decide) ?_
      refine lv_irem hx hb dX1_record_56 (by decide) ?_
      refine zz_puti hx hb hown zw hB zP_X1_25 zdC_29 rfl dX1_record_57 (fun H locs hB => ?_)
      obtain ⟨I57, eI57⟩ : ∃ z : zz_I, z = zz_up I46 29 4 (((I46 29 4) + (1 : Int32)) - ((I46 29 4) + (1 : Int32)) / (14 : Int32) * (14 : Int32)) := ⟨_, rfl⟩
      rw [← eI57] at hB
      have h := h I57 eI57
      refine lv_aload_n hx hb dX1_record_60 rfl (lv_at hl 0 rfl) ?_
      refine lv_aload_n hx hb dX1_record_61 rfl (lv_at hl 0 rfl) ?_
      refine zz_geti hx hb hown zw hB zF_X1_21 zdC_29 rfl dX1_record_62 ?_
      refine lv_iconst (v := (1 : Int32)) hx hb dX1_record_65 (by decide) ?_
      refine lv_iadd hx hb dX1_record_66 ?_
      refine lv_bipush (v := (14 : Int32)) hx hb dX1_record_67 (by decide) ?_
      refine va_mmin hx hb (hml.trans hl.1.symm) hown (zz_W_use zw zk_X1_min rfl) (zz_W_use zw zk_min_s rfl) (zz_W_use zw zk_min_i rfl) (zz_W_use zw zk_min_c rfl) (Nat.le_of_ble_eq_true rfl) (Nat.le_of_ble_eq_true rfl) (Nat.zero_le _) (Nat.zero_le _) dX1_record_69 ?_
      refine zz_puti hx hb hown zw hB zP_X1_21 zdC_29 rfl dX1_record_72 (fun H locs hB => ?_)
      obtain ⟨I72, eI72⟩ : ∃ z : zz_I, z = zz_up I57 29 3 (if (14 : Int32) < ((I57 29 3) + (1 : Int32)) then (14 : Int32) else ((I57 29 3) + (1 : Int32))) := ⟨_, rfl⟩
      rw [← eI72] at hB
      have h := h I72 eI72
      exact zz_vret hx hb hr hlocks hB h dX1_record_75
    · have h := h.2 c13
      exact zz_vret hx hb hr hlocks hB h dX1_record_16
theorem zc_X1_record (l : Launch) (D : va_G) (ca : Nat → ClassId) (a : Nat → Nat) (I : zz_I) (L : zz_L) (sz : Nat) {x1 : Int32} {x2 : Int32} {x3 : Int32} {P : zz_I → zz_L → Prop}  (h : zp_X1_record x1 x2 x3 P I L) : Met l yX1_record [.code yX1_record cX1_record 4 none] ({ frames := 1, cells := 0, slots := 0, locals := 21 } : Room) (zz_Pre D ca zz_dC [.ref (a 29), .int x1, .int x2, .int x3] a I L sz) (zz_Qv D ca zz_dC (zz_A ca zz_dC a I L sz) a P) 0 0 (zz_A ca zz_dC a I L sz) :=
  zz_start (by decide) (Nat.le_of_ble_eq_true rfl) (fun p e s m below meth c X hsz hA => zq_X1_record X hA  h)
def zp_X6_putSign_3b (K3 : Int32 → zz_I → zz_L → Prop) (P : zz_I → zz_L → Prop) (k0 : Nat) (x1 : Int32) (x2 : Int32) (x3 : Int32) (x4 : Int32) (I : zz_I) (L : zz_L) : Prop := (x3 ≤ x4 → P I L) ∧ (¬ x3 ≤ x4 → zp_X6_hasUnit k0 (x1 + x4) (fun r14 => (r14 = 0 → P I L) ∧ (¬ r14 = 0 → (¬ x4 = 0 → vp_in (x1 + x4) 24 ∧ (∀ I39 : zz_I, I39 = zz_up I (k0 + 1) (x1 + x4).toNatClampNeg (8 : Int32) → (∀ v40 : Int32, v40 = x4 + (1 : Int32) → (K3 v40 I39 L)))) ∧ (x4 = 0 → vp_in (x1 + x4) 24 ∧ (∀ I39 : zz_I, I39 = zz_up I (k0 + 1) (x1 + x4).toNatClampNeg x2 → (∀ v40 : Int32, v40 = x4 + (1 : Int32) → (K3 v40 I39 L)))))) I L)
set_option maxHeartbeats 4000000 in
set_option maxRecDepth 100000 in
theorem zq_X6_putSign_3b {p : Program} {l : Launch} {e : Env} {s : State} {m : MethodId} {args : Array Value} {below : List Frame} {meth : Method} {c : Code} {D : va_G} {ca : Nat → ClassId} {A : Nat → Prop} {a : Nat → Nat} {K3 : Int32 → zz_I → zz_L → Prop} {P : zz_I → zz_L → Prop} {I : zz_I} {L : zz_L} {k0 : Nat} {x1 : Int32} {x2 : Int32} {x3 : Int32} {x4 : Int32} (X : zz_X p s m meth c cX6_putSign RX6 none 5) (hA : ∀ q, s.heap.size ≤ q → A q) (hk0 : zz_isT k0) (hK3 : ∀ (y4 : Int32) (I8 : zz_I) (L8 : zz_L), K3 y4 I8 L8 → zz_Go p l e ({ frames := 1, cells := 0, slots := 0, locals := 21 } : Room) s m args below meth c 0 0 (MQ below (zz_Qv D ca zz_dC A a P) args s 0 0 A) D ca zz_dC A 5 3 a [] [(0, .ref (a k0)), (1, .int x1), (2, .int x2), (3, .int x3), (4, .int y4)] I8 L8) (h : zp_X6_putSign_3b K3 P k0 x1 x2 x3 x4 I L) : zz_Go p l e ({ frames := 1, cells := 0, slots := 0, locals := 21 } : Room) s m args below meth c 0 0 (MQ below (zz_Qv D ca zz_dC A a P) args s 0 0 A) D ca zz_dC A 5 3 a [] [(0, .ref (a k0)), (1, .int x1), (2, .int x2), (3, .int x3), (4, .int x4)] I L := by
  obtain ⟨hx, hb, hml, hown, zw, hr, hlocks⟩ := id X
  intro H locs ls hB hl
  unfold zp_X6_putSign_3b at h
  refine lv_iload hx hb dX6_putSign_3 (lv_at hl 4 rfl) ?_
  refine lv_iload_n hx hb dX6_putSign_5 rfl (lv_at hl 3 rfl) ?_
  refine lv_icmp_ge (tgt := 46) hx hb dX6_putSign_6 (by decide) (fun c6 => ?_) (fun c6 => ?_)
  · have h := h.1 c6
    exact zz_vret hx hb hr hlocks hB h dX6_putSign_46
  · have h := h.2 c6
    refine lv_aload_n hx hb dX6_putSign_9 rfl (lv_at hl 0 rfl) ?_
    refine lv_iload_n hx hb dX6_putSign_10 rfl (lv_at hl 1 rfl) ?_
    refine lv_iload hx hb dX6_putSign_11 (lv_at hl 4 rfl) ?_
    refine lv_iadd hx hb dX6_putSign_13 ?_
    refine zz_goip hB hA (zz_runV (As := [.int (x1 + x4)]) (rest := []) hx hb hml hown zw hB zM_X6_40 (zc_X6_hasUnit l D ca a I L H.size hk0 h) hk0.1 rfl rfl hl.1 rfl (Nat.le_of_ble_eq_true rfl) rfl rfl ⟨Nat.le_of_ble_eq_true rfl, Nat.le_of_ble_eq_true rfl⟩ dX6_putSign_14 ⟨Nat.le_of_ble_eq_true rfl, Nat.le_of_ble_eq_true rfl⟩) (fun r14 H locs h hB => ?_)
    refine lv_if_eq (tgt := 46) hx hb dX6_putSign_17 (by decide) (fun c17 => ?_) (fun c17 => ?_)
    · have h := h.1 c17
      exact zz_vret hx hb hr hlocks hB h dX6_putSign_46
    · have h := h.2 c17
      refine lv_aload_n hx hb dX6_putSign_20 rfl (lv_at hl 0 rfl) ?_
      refine zz_getr (k' := k0 + 1) hx hb hown zw hB zF_X6_9 hk0.1 rfl rfl dX6_putSign_21 ?_
      refine lv_iload_n hx hb dX6_putSign_24 rfl (lv_at hl 1 rfl) ?_
      refine lv_iload hx hb dX6_putSign_25 (lv_at hl 4 rfl) ?_
      refine lv_iadd hx hb dX6_putSign_27 ?_
      refine lv_iload hx hb dX6_putSign_28 (lv_at hl 4 rfl) ?_
      refine lv_if_ne (tgt := 37) hx hb dX6_putSign_30 (by decide) (fun c30 => ?_) (fun c30 => ?_)
      · have h := h.1 c30
        refine lv_bipush (v := (8 : Int32)) hx hb dX6_putSign_37 (by decide) ?_
        obtain ⟨hi39, h⟩ := h
        refine zz_iast hx hb hB hk0.2.1 hi39 dX6_putSign_39 (fun H locs hB => ?_)
        obtain ⟨I39, eI39⟩ : ∃ z : zz_I, z = zz_up I (k0 + 1) (x1 + x4).toNatClampNeg (8 : Int32) := ⟨_, rfl⟩
        rw [← eI39] at hB
        have h := h I39 eI39
        obtain ⟨v40, ev40⟩ : ∃ z : Int32, z = x4 + (1 : Int32) := ⟨_, rfl⟩
        have h := h v40 ev40
        refine lv_iinc (v := v40) (lv' := [(4, .int v40), (0, .ref (a k0)), (1, .int x1), (2, .int x2), (3, .int x3)]) hx hb dX6_putSign_40 hl (k := 4) rfl (by rw [ev40]; rfl) (by decide) rfl (fun ls hl => ?_)
        refine lv_goto (tgt := 3) hx hb dX6_putSign_43 (by decide) ?_
        exact hK3 _ _ _ h H locs ls hB (lv_sub hl [1, 2, 3, 4, 0] rfl)
      · have h := h.2 c30
        refine lv_iload_n hx hb dX6_putSign_33 rfl (lv_at hl 2 rfl) ?_
        refine lv_goto (tgt := 39) hx hb dX6_putSign_34 (by decide) ?_
        obtain ⟨hi39, h⟩ := h
        refine zz_iast hx hb hB hk0.2.1 hi39 dX6_putSign_39 (fun H locs hB => ?_)
        obtain ⟨I39, eI39⟩ : ∃ z : zz_I, z = zz_up I (k0 + 1) (x1 + x4).toNatClampNeg x2 := ⟨_, rfl⟩
        rw [← eI39] at hB
        have h := h I39 eI39
        obtain ⟨v40, ev40⟩ : ∃ z : Int32, z = x4 + (1 : Int32) := ⟨_, rfl⟩
        have h := h v40 ev40
        refine lv_iinc (v := v40) (lv' := [(4, .int v40), (0, .ref (a k0)), (1, .int x1), (2, .int x2), (3, .int x3)]) hx hb dX6_putSign_40 hl (k := 4) rfl (by rw [ev40]; rfl) (by decide) rfl (fun ls hl => ?_)
        refine lv_goto (tgt := 3) hx hb dX6_putSign_43 (by decide) ?_
        exact hK3 _ _ _ h H locs ls hB (lv_sub hl [1, 2, 3, 4, 0] rfl)
def zp_X6_putSign_3  (P : zz_I → zz_L → Prop) (k0 : Nat) (x1 : Int32) (x2 : Int32) (x3 : Int32) (x4 : Int32) (I : zz_I) (L : zz_L) : Prop := ∃ (Inv : Int32 → zz_I → zz_L → Prop) (μ : Int32 → zz_I → zz_L → Nat), Inv x4 I L ∧ ∀ (y4 : Int32) (I8 : zz_I) (L8 : zz_L), Inv y4 I8 L8 → zp_X6_putSign_3b  (fun z4 I7 L7 => Inv z4 I7 L7 ∧ μ z4 I7 L7 < μ y4 I8 L8) P k0 x1 x2 x3 y4 I8 L8
set_option maxHeartbeats 4000000 in
set_option maxRecDepth 100000 in
theorem zq_X6_putSign_3 {p : Program} {l : Launch} {e : Env} {s : State} {m : MethodId} {args : Array Value} {below : List Frame} {meth : Method} {c : Code} {D : va_G} {ca : Nat → ClassId} {A : Nat → Prop} {a : Nat → Nat}  {P : zz_I → zz_L → Prop} {I : zz_I} {L : zz_L} {k0 : Nat} {x1 : Int32} {x2 : Int32} {x3 : Int32} {x4 : Int32} (X : zz_X p s m meth c cX6_putSign RX6 none 5) (hA : ∀ q, s.heap.size ≤ q → A q) (hk0 : zz_isT k0)  (h : zp_X6_putSign_3  P k0 x1 x2 x3 x4 I L) : zz_Go p l e ({ frames := 1, cells := 0, slots := 0, locals := 21 } : Room) s m args below meth c 0 0 (MQ below (zz_Qv D ca zz_dC A a P) args s 0 0 A) D ca zz_dC A 5 3 a [] [(0, .ref (a k0)), (1, .int x1), (2, .int x2), (3, .int x3), (4, .int x4)] I L := by
  unfold zp_X6_putSign_3 at h
  obtain ⟨Inv, μ, hv0, hs⟩ := h
  have key : ∀ (n9 : Nat) (y4 : Int32) (I8 : zz_I) (L8 : zz_L), μ y4 I8 L8 < n9 → Inv y4 I8 L8 → zz_Go p l e ({ frames := 1, cells := 0, slots := 0, locals := 21 } : Room) s m args below meth c 0 0 (MQ below (zz_Qv D ca zz_dC A a P) args s 0 0 A) D ca zz_dC A 5 3 a [] [(0, .ref (a k0)), (1, .int x1), (2, .int x2), (3, .int x3), (4, .int y4)] I8 L8 := by
    intro n9
    induction n9 with
    | zero => intro y4 I8 L8 hn; exact absurd hn (Nat.not_lt_zero _)
    | succ n9 ih =>
      intro y4 I8 L8 hn hi
      exact zq_X6_putSign_3b (K3 := (fun z4 I7 L7 => Inv z4 I7 L7 ∧ μ z4 I7 L7 < μ y4 I8 L8)) X hA hk0  (fun z4 I7 L7 hz => ih z4 I7 L7 (Nat.lt_of_lt_of_le hz.2 (Nat.le_of_lt_succ hn)) hz.1) (hs y4 I8 L8 hi)
  exact key _ x4 I L (Nat.lt_succ_self _) hv0
def zp_X6_putSign (k0 : Nat) (x1 : Int32) (x2 : Int32) (x3 : Int32) (P : zz_I → zz_L → Prop) (I : zz_I) (L : zz_L) : Prop := zp_X6_putSign_3 P k0 x1 x2 x3 (0 : Int32) I L
set_option maxHeartbeats 4000000 in
set_option maxRecDepth 100000 in
theorem zq_X6_putSign {p : Program} {l : Launch} {e : Env} {s : State} {m : MethodId} {args : Array Value} {below : List Frame} {meth : Method} {c : Code} {D : va_G} {ca : Nat → ClassId} {A : Nat → Prop} {a : Nat → Nat}  {P : zz_I → zz_L → Prop} {I : zz_I} {L : zz_L} {k0 : Nat} {x1 : Int32} {x2 : Int32} {x3 : Int32} (X : zz_X p s m meth c cX6_putSign RX6 none 5) (hA : ∀ q, s.heap.size ≤ q → A q) (hk0 : zz_isT k0)  (h : zp_X6_putSign k0 x1 x2 x3 P I L) : zz_Go p l e ({ frames := 1, cells := 0, slots := 0, locals := 21 } : Room) s m args below meth c 0 0 (MQ below (zz_Qv D ca zz_dC A a P) args s 0 0 A) D ca zz_dC A 5 0 a [] [(0, .ref (a k0)), (1, .int x1), (2, .int x2), (3, .int x3)] I L := by
  obtain ⟨hx, hb, hml, hown, zw, hr, hlocks⟩ := id X
  intro H locs ls hB hl
  unfold zp_X6_putSign at h
  refine lv_iconst (v := (0 : Int32)) hx hb dX6_putSign_0 (by decide) ?_
  refine lv_istore (lv' := [(4, .int (0 : Int32)), (0, .ref (a k0)), (1, .int x1), (2, .int x2), (3, .int x3)]) hx hb dX6_putSign_1 hl (by decide) rfl (fun ls hl => ?_)
  exact zq_X6_putSign_3 X hA hk0 h H locs ls hB (lv_sub hl [1, 2, 3, 4, 0] rfl)
theorem zc_X6_putSign (l : Launch) (D : va_G) (ca : Nat → ClassId) (a : Nat → Nat) (I : zz_I) (L : zz_L) (sz : Nat) {k0 : Nat} {x1 : Int32} {x2 : Int32} {x3 : Int32} {P : zz_I → zz_L → Prop} (hk0 : zz_isT k0) (h : zp_X6_putSign k0 x1 x2 x3 P I L) : Met l yX6_putSign [.code yX6_putSign cX6_putSign 5 none] ({ frames := 1, cells := 0, slots := 0, locals := 21 } : Room) (zz_Pre D ca zz_dC [.ref (a k0), .int x1, .int x2, .int x3] a I L sz) (zz_Qv D ca zz_dC (zz_A ca zz_dC a I L sz) a P) 0 0 (zz_A ca zz_dC a I L sz) :=
  zz_start (by decide) (Nat.le_of_ble_eq_true rfl) (fun p e s m below meth c X hsz hA => zq_X6_putSign X hA hk0 h)
def zp_X6_putGap_2b (K2 : Int32 → zz_I → zz_L → Prop) (P : zz_I → zz_L → Prop) (k0 : Nat) (x1 : Int32) (x2 : Int32) (x3 : Int32) (I : zz_I) (L : zz_L) : Prop := (x2 ≤ x3 → P I L) ∧ (¬ x2 ≤ x3 → zp_X6_hasUnit k0 (x1 + x3) (fun r11 => (r11 = 0 → P I L) ∧ (¬ r11 = 0 → vp_in (x1 + x3) 24 ∧ (∀ I26 : zz_I, I26 = zz_up I (k0 + 1) (x1 + x3).toNatClampNeg (7 : Int32) → (∀ v27 : Int32, v27 = x3 + (1 : Int32) → (K2 v27 I26 L))))) I L)
set_option maxHeartbeats 4000000 in
set_option maxRecDepth 100000 in
theorem zq_X6_putGap_2b {p : Program} {l : Launch} {e : Env} {s : State} {m : MethodId} {args : Array Value} {below : List Frame} {meth : Method} {c : Code} {D : va_G} {ca : Nat → ClassId} {A : Nat → Prop} {a : Nat → Nat} {K2 : Int32 → zz_I → zz_L → Prop} {P : zz_I → zz_L → Prop} {I : zz_I} {L : zz_L} {k0 : Nat} {x1 : Int32} {x2 : Int32} {x3 : Int32} (X : zz_X p s m meth c cX6_putGap RX6 none 4) (hA : ∀ q, s.heap.size ≤ q → A q) (hk0 : zz_isT k0) (hK2 : ∀ (y3 : Int32) (I8 : zz_I) (L8 : zz_L), K2 y3 I8 L8 → zz_Go p l e ({ frames := 1, cells := 0, slots := 0, locals := 21 } : Room) s m args below meth c 0 0 (MQ below (zz_Qv D ca zz_dC A a P) args s 0 0 A) D ca zz_dC A 4 2 a [] [(0, .ref (a k0)), (1, .int x1), (2, .int x2), (3, .int y3)] I8 L8) (h : zp_X6_putGap_2b K2 P k0 x1 x2 x3 I L) : zz_Go p l e ({ frames := 1, cells := 0, slots := 0, locals := 21 } : Room) s m args below meth c 0 0 (MQ below (zz_Qv D ca zz_dC A a P) args s 0 0 A) D ca zz_dC A 4 2 a [] [(0, .ref (a k0)), (1, .int x1), (2, .int x2), (3, .int x3)] I L := by
  obtain ⟨hx, hb, hml, hown, zw, hr, hlocks⟩ := id X
  intro H locs ls hB hl
  unfold zp_X6_putGap_2b at h
  refine lv_iload_n hx hb dX6_putGap_2 rfl (lv_at hl 3 rfl) ?_
  refine lv_iload_n hx hb dX6_putGap_3 rfl (lv_at hl 2 rfl) ?_
  refine lv_icmp_ge (tgt := 33) hx hb dX6_putGap_4 (by decide) (fun c4 => ?_) (fun c4 => ?_)
  · have h := h.1 c4
    exact zz_vret hx hb hr hlocks hB h dX6_putGap_33
  · have h := h.2 c4
    refine lv_aload_n hx hb dX6_putGap_7 rfl (lv_at hl 0 rfl) ?_
    refine lv_iload_n hx hb dX6_putGap_8 rfl (lv_at hl 1 rfl) ?_
    refine lv_iload_n hx hb dX6_putGap_9 rfl (lv_at hl 3 rfl) ?_
    refine lv_iadd hx hb dX6_putGap_10 ?_
    refine zz_goip hB hA (zz_runV (As := [.int (x1 + x3)]) (rest := []) hx hb hml hown zw hB zM_X6_40 (zc_X6_hasUnit l D ca a I L H.size hk0 h) hk0.1 rfl rfl hl.1 rfl (Nat.le_of_ble_eq_true rfl) rfl rfl ⟨Nat.le_of_ble_eq_true rfl, Nat.le_of_ble_eq_true rfl⟩ dX6_putGap_11 ⟨Nat.le_of_ble_eq_true rfl, Nat.le_of_ble_eq_true rfl⟩) (fun r11 H locs h hB => ?_)
    refine lv_if_eq (tgt := 33) hx hb dX6_putGap_14 (by decide) (fun c14 => ?_) (fun c14 => ?_)
    · have h := h.1 c14
      exact zz_vret hx hb hr hlocks hB h dX6_putGap_33
    · have h := h.2 c14
      refine lv_aload_n hx hb dX6_putGap_17 rfl (lv_at hl 0 rfl) ?_
      refine zz_getr (k' := k0 + 1) hx hb hown zw hB zF_X6_9 hk0.1 rfl rfl dX6_putGap_18 ?_
      refine lv_iload_n hx hb dX6_putGap_21 rfl (lv_at hl 1 rfl) ?_
      refine lv_iload_n hx hb dX6_putGap_22 rfl (lv_at hl 3 rfl) ?_
      refine lv_iadd hx hb dX6_putGap_23 ?_
      refine lv_bipush (v := (7 : Int32)) hx hb dX6_putGap_24 (by decide) ?_
      obtain ⟨hi26, h⟩ := h
      refine zz_iast hx hb hB hk0.2.1 hi26 dX6_putGap_26 (fun H locs hB => ?_)
      obtain ⟨I26, eI26⟩ : ∃ z : zz_I, z = zz_up I (k0 + 1) (x1 + x3).toNatClampNeg (7 : Int32) := ⟨_, rfl⟩
      rw [← eI26] at hB
      have h := h I26 eI26
      obtain ⟨v27, ev27⟩ : ∃ z : Int32, z = x3 + (1 : Int32) := ⟨_, rfl⟩
      have h := h v27 ev27
      refine lv_iinc (v := v27) (lv' := [(3, .int v27), (0, .ref (a k0)), (1, .int x1), (2, .int x2)]) hx hb dX6_putGap_27 hl (k := 3) rfl (by rw [ev27]; rfl) (by decide) rfl (fun ls hl => ?_)
      refine lv_goto (tgt := 2) hx hb dX6_putGap_30 (by decide) ?_
      exact hK2 _ _ _ h H locs ls hB (lv_sub hl [1, 2, 3, 0] rfl)
def zp_X6_putGap_2  (P : zz_I → zz_L → Prop) (k0 : Nat) (x1 : Int32) (x2 : Int32) (x3 : Int32) (I : zz_I) (L : zz_L) : Prop := ∃ (Inv : Int32 → zz_I → zz_L → Prop) (μ : Int32 → zz_I → zz_L → Nat), Inv x3 I L ∧ ∀ (y3 : Int32) (I8 : zz_I) (L8 : zz_L), Inv y3 I8 L8 → zp_X6_putGap_2b  (fun z3 I7 L7 => Inv z3 I7 L7 ∧ μ z3 I7 L7 < μ y3 I8 L8) P k0 x1 x2 y3 I8 L8
set_option maxHeartbeats 4000000 in
set_option maxRecDepth 100000 in
theorem zq_X6_putGap_2 {p : Program} {l : Launch} {e : Env} {s : State} {m : MethodId} {args : Array Value} {below : List Frame} {meth : Method} {c : Code} {D : va_G} {ca : Nat → ClassId} {A : Nat → Prop} {a : Nat → Nat}  {P : zz_I → zz_L → Prop} {I : zz_I} {L : zz_L} {k0 : Nat} {x1 : Int32} {x2 : Int32} {x3 : Int32} (X : zz_X p s m meth c cX6_putGap RX6 none 4) (hA : ∀ q, s.heap.size ≤ q → A q) (hk0 : zz_isT k0)  (h : zp_X6_putGap_2  P k0 x1 x2 x3 I L) : zz_Go p l e ({ frames := 1, cells := 0, slots := 0, locals := 21 } : Room) s m args below meth c 0 0 (MQ below (zz_Qv D ca zz_dC A a P) args s 0 0 A) D ca zz_dC A 4 2 a [] [(0, .ref (a k0)), (1, .int x1), (2, .int x2), (3, .int x3)] I L := by
  unfold zp_X6_putGap_2 at h
  obtain ⟨Inv, μ, hv0, hs⟩ := h
  have key : ∀ (n9 : Nat) (y3 : Int32) (I8 : zz_I) (L8 : zz_L), μ y3 I8 L8 < n9 → Inv y3 I8 L8 → zz_Go p l e ({ frames := 1, cells := 0, slots := 0, locals := 21 } : Room) s m args below meth c 0 0 (MQ below (zz_Qv D ca zz_dC A a P) args s 0 0 A) D ca zz_dC A 4 2 a [] [(0, .ref (a k0)), (1, .int x1), (2, .int x2), (3, .int y3)] I8 L8 := by
    intro n9
    induction n9 with
    | zero => intro y3 I8 L8 hn; exact absurd hn (Nat.not_lt_zero _)
    | succ n9 ih =>
      intro y3 I8 L8 hn hi
      exact zq_X6_putGap_2b (K2 := (fun z3 I7 L7 => Inv z3 I7 L7 ∧ μ z3 I7 L7 < μ y3 I8 L8)) X hA hk0  (fun z3 I7 L7 hz => ih z3 I7 L7 (Nat.lt_of_lt_of_le hz.2 (Nat.le_of_lt_succ hn)) hz.1) (hs y3 I8 L8 hi)
  exact key _ x3 I L (Nat.lt_succ_self _) hv0
def zp_X6_putGap (k0 : Nat) (x1 : Int32) (x2 : Int32) (P : zz_I → zz_L → Prop) (I : zz_I) (L : zz_L) : Prop := zp_X6_putGap_2 P k0 x1 x2 (0 : Int32) I L
set_option maxHeartbeats 4000000 in
set_option maxRecDepth 100000 in
theorem zq_X6_putGap {p : Program} {l : Launch} {e : Env} {s : State} {m : MethodId} {args : Array Value} {below : List Frame} {meth : Method} {c : Code} {D : va_G} {ca : Nat → ClassId} {A : Nat → Prop} {a : Nat → Nat}  {P : zz_I → zz_L → Prop} {I : zz_I} {L : zz_L} {k0 : Nat} {x1 : Int32} {x2 : Int32} (X : zz_X p s m meth c cX6_putGap RX6 none 4) (hA : ∀ q, s.heap.size ≤ q → A q) (hk0 : zz_isT k0)  (h : zp_X6_putGap k0 x1 x2 P I L) : zz_Go p l e ({ frames := 1, cells := 0, slots := 0, locals := 21 } : Room) s m args below meth c 0 0 (MQ below (zz_Qv D ca zz_dC A a P) args s 0 0 A) D ca zz_dC A 4 0 a [] [(0, .ref (a k0)), (1, .int x1), (2, .int x2)] I L := by
  obtain ⟨hx, hb, hml, hown, zw, hr, hlocks⟩ := id X
  intro H locs ls hB hl
  unfold zp_X6_putGap at h
  refine lv_iconst (v := (0 : Int32)) hx hb dX6_putGap_0 (by decide) ?_
  refine lv_istore_n (lv' := [(3, .int (0 : Int32)), (0, .ref (a k0)), (1, .int x1), (2, .int x2)]) hx hb dX6_putGap_1 rfl hl (by decide) rfl (fun ls hl => ?_)
  exact zq_X6_putGap_2 X hA hk0 h H locs ls hB (lv_sub hl [1, 2, 3, 0] rfl)
theorem zc_X6_putGap (l : Launch) (D : va_G) (ca : Nat → ClassId) (a : Nat → Nat) (I : zz_I) (L : zz_L) (sz : Nat) {k0 : Nat} {x1 : Int32} {x2 : Int32} {P : zz_I → zz_L → Prop} (hk0 : zz_isT k0) (h : zp_X6_putGap k0 x1 x2 P I L) : Met l yX6_putGap [.code yX6_putGap cX6_putGap 4 none] ({ frames := 1, cells := 0, slots := 0, locals := 21 } : Room) (zz_Pre D ca zz_dC [.ref (a k0), .int x1, .int x2] a I L sz) (zz_Qv D ca zz_dC (zz_A ca zz_dC a I L sz) a P) 0 0 (zz_A ca zz_dC a I L sz) :=
  zz_start (by decide) (Nat.le_of_ble_eq_true rfl) (fun p e s m below meth c X hsz hA => zq_X6_putGap X hA hk0 h)
def zp_X6_flipWord (k0 : Nat) (x2 : Int32) (P : Int32 → zz_I → zz_L → Prop) (I : zz_I) (L : zz_L) : Prop := zp_X2_hasWord x2 (fun r2 => (¬ r2 = 0 → ∀ I19 : zz_I, I19 = zz_up I k0 4 ((I k0 4) ^^^ ((1 : Int32) <<< (x2 &&& 31))) → (P (((I19 k0 4) >>> (x2 &&& 31)) &&& (1 : Int32)) I19 L)) ∧ (r2 = 0 → P (-1 : Int32) I L)) I L
set_option maxHeartbeats 4000000 in
set_option maxRecDepth 100000 in
theorem zq_X6_flipWord {p : Program} {l : Launch} {e : Env} {s : State} {m : MethodId} {args : Array Value} {below : List Frame} {meth : Method} {c : Code} {D : va_G} {ca : Nat → ClassId} {A : Nat → Prop} {a : Nat → Nat}  {P : Int32 → zz_I → zz_L → Prop} {I : zz_I} {L : zz_L} {k0 : Nat} {x2 : Int32} (X : zz_X p s m meth c cX6_flipWord RX6 (some .int) 3) (hA : ∀ q, s.heap.size ≤ q → A q) (hk0 : zz_isT k0)  (h : zp_X6_flipWord k0 x2 P I L) : zz_Go p l e ({ frames := 1, cells := 0, slots := 0, locals := 21 } : Room) s m args below meth c 0 0 (MQ below (zz_Qi D ca zz_dC A a P) args s 0 0 A) D ca zz_dC A 3 0 a [] [(0, .ref (a k0)), (1, .ref (a 14)), (2, .int x2)] I L := by
  obtain ⟨hx, hb, hml, hown, zw, hr, hlocks⟩ := id X
  intro H locs ls hB hl
  unfold zp_X6_flipWord at h
  refine lv_aload_n hx hb dX6_flipWord_0 rfl (lv_at hl 1 rfl) ?_
  refine lv_iload_n hx hb dX6_flipWord_1 rfl (lv_at hl 2 rfl) ?_
  refine zz_goip hB hA (zz_runV (As := [.int x2]) (rest := []) hx hb hml hown zw hB zM_X6_44 (zc_X2_hasWord l D ca a I L H.size h) zdC_14 rfl rfl hl.1 rfl (Nat.le_of_ble_eq_true rfl) rfl rfl ⟨Nat.le_of_ble_eq_true rfl, Nat.le_of_ble_eq_true rfl⟩ dX6_flipWord_2 ⟨Nat.le_of_ble_eq_true rfl, Nat.le_of_ble_eq_true rfl⟩) (fun r2 H locs h hB => ?_)
  refine lv_if_ne (tgt := 10) hx hb dX6_flipWord_5 (by decide) (fun c5 => ?_) (fun c5 => ?_)
  · have h := h.1 c5
    refine lv_aload_n hx hb dX6_flipWord_10 rfl (lv_at hl 0 rfl) ?_
    refine lv_dup hx hb dX6_flipWord_11 rfl ?_
    refine zz_geti hx hb hown zw hB zF_X6_25 hk0.1 rfl dX6_flipWord_12 ?_
    refine lv_iconst (v := (1 : Int32)) hx hb dX6_flipWord_15 (by decide) ?_
    refine lv_iload_n hx hb dX6_flipWord_16 rfl (lv_at hl 2 rfl) ?_
    refine lv_ishl hx hb dX6_flipWord_17 ?_
    refine lv_ixor hx hb dX6_flipWord_18 ?_
    refine zz_puti hx hb hown zw hB zP_X6_25 hk0.1 rfl dX6_flipWord_19 (fun H locs hB => ?_)
    obtain ⟨I19, eI19⟩ : ∃ z : zz_I, z = zz_up I k0 4 ((I k0 4) ^^^ ((1 : Int32) <<< (x2 &&& 31))) := ⟨_, rfl⟩
    rw [← eI19] at hB
    have h := h I19 eI19
    refine lv_aload_n hx hb dX6_flipWord_22 rfl (lv_at hl 0 rfl) ?_
    refine zz_geti hx hb hown zw hB zF_X6_25 hk0.1 rfl dX6_flipWord_23 ?_
    refine lv_iload_n hx hb dX6_flipWord_26 rfl (lv_at hl 2 rfl) ?_
    refine lv_ishr hx hb dX6_flipWord_27 ?_
    refine lv_iconst (v := (1 : Int32)) hx hb dX6_flipWord_28 (by decide) ?_
    refine lv_iand hx hb dX6_flipWord_29 ?_
    exact zz_iret hx hb hr hlocks hB h dX6_flipWord_30
  · have h := h.2 c5
    refine lv_iconst (v := (-1 : Int32)) hx hb dX6_flipWord_8 (by decide) ?_
    exact zz_iret hx hb hr hlocks hB h dX6_flipWord_9
theorem zc_X6_flipWord (l : Launch) (D : va_G) (ca : Nat → ClassId) (a : Nat → Nat) (I : zz_I) (L : zz_L) (sz : Nat) {k0 : Nat} {x2 : Int32} {P : Int32 → zz_I → zz_L → Prop} (hk0 : zz_isT k0) (h : zp_X6_flipWord k0 x2 P I L) : Met l yX6_flipWord [.code yX6_flipWord cX6_flipWord 3 (some .int)] ({ frames := 1, cells := 0, slots := 0, locals := 21 } : Room) (zz_Pre D ca zz_dC [.ref (a k0), .ref (a 14), .int x2] a I L sz) (zz_Qi D ca zz_dC (zz_A ca zz_dC a I L sz) a P) 0 0 (zz_A ca zz_dC a I L sz) :=
  zz_start (by decide) (Nat.le_of_ble_eq_true rfl) (fun p e s m below meth c X hsz hA => zq_X6_flipWord X hA hk0 h)
def zp_X1_takeBack  (P : zz_I → zz_L → Prop) (I : zz_I) (L : zz_L) : Prop := ∀ v12 : Int32, v12 = (((I 29 4) + (14 : Int32)) - (1 : Int32)) - (((I 29 4) + (14 : Int32)) - (1 : Int32)) / (14 : Int32) * (14 : Int32) → (((I 29 3) ≤ 0 → P I L) ∧ (¬ (I 29 3) ≤ 0 → (0 ≤ v12 → ∀ I27 : zz_I, I27 = zz_up I 29 4 v12 → (∀ I37 : zz_I, I37 = zz_up I27 29 3 ((I27 29 3) - (1 : Int32)) → (vp_in v12 14 ∧ (∀ v46 : Int32, v46 = I37 31 v12.toNatClampNeg → (vp_in v12 14 ∧ (∀ v54 : Int32, v54 = I37 32 v12.toNatClampNeg → (vp_in v12 14 ∧ (∀ w62 : Int32, w62 = I37 30 v12.toNatClampNeg → ((w62 = (0 : Int32) → zp_X2_widthOf 14 v54 (fun r104 => zp_X6_putSign 21 v46 v54 r104 (fun I107 L107 => P I107 L107) I37 L) I37 L) ∧ (w62 = (1 : Int32) → zp_X2_widthOf 14 v54 (fun r119 => zp_X6_putGap 21 v46 r119 (fun I122 L122 => P I122 L122) I37 L) I37 L) ∧ (w62 = (2 : Int32) → zp_X6_flipWord 21 v46 (fun r132 I132 L132 => P I132 L132) I37 L) ∧ (w62 = (3 : Int32) → (v46 < 0 → P I37 L) ∧ (¬ v46 < 0 → ((9 : Int32) ≤ v46 → P I37 L) ∧ (¬ (9 : Int32) ≤ v46 → vp_in v46 9 ∧ (∀ I159 : zz_I, I159 = zz_up I37 23 v46.toNatClampNeg v54 → (P I159 L))))) ∧ (w62 = (4 : Int32) → zp_X2_hasWord v46 (fun r166 => (r166 = 0 → P I37 L) ∧ (¬ r166 = 0 → vp_in v46 8 ∧ (∀ I180 : zz_I, I180 = zz_up I37 24 v46.toNatClampNeg v54 → (P I180 L)))) I37 L) ∧ (¬ w62 = (0 : Int32) → ¬ w62 = (1 : Int32) → ¬ w62 = (2 : Int32) → ¬ w62 = (3 : Int32) → ¬ w62 = (4 : Int32) → P I37 L)))))))))) ∧ (¬ 0 ≤ v12 → P I L)))
set_option maxHeartbeats 4000000 in
set_option maxRecDepth 100000 in
theorem zq_X1_takeBack {p : Program} {l : Launch} {e : Env} {s : State} {m : MethodId} {args : Array Value} {below : List Frame} {meth : Method} {c : Code} {D : va_G} {ca : Nat → ClassId} {A : Nat → Prop} {a : Nat → Nat}  {P : zz_I → zz_L → Prop} {I : zz_I} {L : zz_L}  (X : zz_X p s m meth c cX1_takeBack RX1 none 6) (hA : ∀ q, s.heap.size ≤ q → A q)   (h : zp_X1_takeBack  P I L) : zz_Go p l e ({ frames := 2, cells := 0, slots := 0, locals := 45 } : Room) s m args below meth c 0 0 (MQ below (zz_Qv D ca zz_dC A a P) args s 0 0 A) D ca zz_dC A 6 0 a [] [(0, .ref (a 29)), (1, .ref (a 14)), (2, .ref (a 21))] I L := by
  obtain ⟨hx, hb, hml, hown, zw, hr, hlocks⟩ := id X
  intro H locs ls hB hl
  unfold zp_X1_takeBack at h
  refine lv_aload_n hx hb dX1_takeBack_0 rfl (lv_at hl 0 rfl) ?_
  refine zz_geti hx hb hown zw hB zF_X1_25 zdC_29 rfl dX1_takeBack_1 ?_
  refine lv_bipush (v := (14 : Int32)) hx hb dX1_takeBack_4 (by decide) ?_
  refine lv_iadd hx hb dX1_takeBack_6 ?_
  refine lv_iconst (v := (1 : Int32)) hx hb dX1_takeBack_7 (by decide) ?_
  refine lv_isub hx hb dX1_takeBack_8 ?_
  refine lv_bipush (v := (14 : Int32)) hx hb dX1_takeBack_9 (by decide) ?_
  refine lv_irem hx hb dX1_takeBack_11 (by decide) ?_
  refine lv_topi (fun v12 ev12 => ?_)
  have h := h v12 ev12
  refine lv_istore_n (lv' := [(3, .int v12), (0, .ref (a 29)), (1, .ref (a 14)), (2, .ref (a 21))]) hx hb dX1_takeBack_12 rfl hl (by decide) rfl (fun ls hl => ?_)
  refine lv_aload_n hx hb dX1_takeBack_13 rfl (lv_at hl 1 rfl) ?_
  refine zz_geti hx hb hown zw hB zF_X1_21 zdC_29 rfl dX1_takeBack_14 ?_
  refine lv_if_le (tgt := 24) hx hb dX1_takeBack_17 (by decide) (fun c17 => ?_) (fun c17 => ?_)
  · have h := h.1 c17
    exact zz_vret hx hb hr hlocks hB h dX1_takeBack_24
  · have h := h.2 c17
    refine lv_iload_n hx hb dX1_takeBack_20 rfl (lv_at hl 0 rfl) ?_
    refine lv_if_ge (tgt := 25) hx hb dX1_takeBack_21 (by decide) (fun c21 => ?_) (fun c21 => ?_)
    · have h := h.1 c21
      refine lv_aload_n hx hb dX1_takeBack_25 rfl (lv_at hl 1 rfl) ?_
      refine lv_iload_n hx hb dX1_takeBack_26 rfl (lv_at hl 0 rfl) ?_
      refine zz_puti hx hb hown zw hB zP_X1_25 zdC_29 rfl dX1_takeBack_27 (fun H locs hB => ?_)
      obtain ⟨I27, eI27⟩ : ∃ z : zz_I, z = zz_up I 29 4 v12 := ⟨_, rfl⟩
      rw [← eI27] at hB
      have h := h I27 eI27
      refine lv_aload_n hx hb dX1_takeBack_30 rfl (lv_at hl 1 rfl) ?_
      refine lv_dup hx hb dX1_takeBack_31 rfl ?_
      refine zz_geti hx hb hown zw hB zF_X1_21 zdC_29 rfl dX1_takeBack_32 ?_
      refine lv_iconst (v := (1 : Int32)) hx hb dX1_takeBack_35 (by decide) ?_
      refine lv_isub hx hb dX1_takeBack_36 ?_
      refine zz_puti hx hb hown zw hB zP_X1_21 zdC_29 rfl dX1_takeBack_37 (fun H locs hB => ?_)
      obtain ⟨I37, eI37⟩ : ∃ z : zz_I, z = zz_up I27 29 3 ((I27 29 3) - (1 : Int32)) := ⟨_, rfl⟩
      rw [← eI37] at hB
      have h := h I37 eI37
      refine lv_aload_n hx hb dX1_takeBack_40 rfl (lv_at hl 1 rfl) ?_
      refine zz_getr (k' := 31) hx hb hown zw hB zF_X1_15 zdC_29 rfl rfl dX1_takeBack_41 ?_
      refine lv_iload_n hx hb dX1_takeBack_44 rfl (lv_at hl 0 rfl) ?_
      obtain ⟨hi45, h⟩ := h
      refine zz_iald hx hb hB zdC_31 hi45 dX1_takeBack_45 ?_
      refine lv_topi (fun v46 ev46 => ?_)
      have h := h v46 ev46
      refine lv_istore (lv' := [(4, .int v46), (3, .int v12), (0, .ref (a 29)), (1, .ref (a 14)), (2, .ref (a 21))]) hx hb dX1_takeBack_46 hl (by decide) rfl (fun ls hl => ?_)
      refine lv_aload_n hx hb dX1_takeBack_48 rfl (lv_at hl 2 rfl) ?_
      refine zz_getr (k' := 32) hx hb hown zw hB zF_X1_18 zdC_29 rfl rfl dX1_takeBack_49 ?_
      refine lv_iload_n hx hb dX1_takeBack_52 rfl (lv_at hl 1 rfl) ?_
      obtain ⟨hi53, h⟩ := h
      refine zz_iald hx hb hB zdC_32 hi53 dX1_takeBack_53 ?_
      refine lv_topi (fun v54 ev54 => ?_)
      have h := h v54 ev54
      refine lv_istore (lv' := [(5, .int v54), (4, .int v46), (3, .int v12), (0, .ref (a 29)), (1, .ref (a 14)), (2, .ref (a 21))]) hx hb dX1_takeBack_54 hl (by decide) rfl (fun ls hl => ?_)
      refine lv_aload_n hx hb dX1_takeBack_56 rfl (lv_at hl 3 rfl) ?_
      refine zz_getr (k' := 30) hx hb hown zw hB zF_X1_9 zdC_29 rfl rfl dX1_takeBack_57 ?_
      refine lv_iload_n hx hb dX1_takeBack_60 rfl (lv_at hl 2 rfl) ?_
      obtain ⟨hi61, h⟩ := h
      refine zz_iald hx hb hB zdC_30 hi61 dX1_takeBack_61 ?_
      refine lv_topi (fun w62 ew62 => ?_)
      have h := h w62 ew62
      by_cases q62_0 : w62 = (0 : Int32)
      · have h := h.1 q62_0
        refine lv_tableIn (tgt := 96) hx hb dX1_takeBack_62 (by rw [q62_0] <;> decide) (by rw [q62_0] <;> decide) (by rw [q62_0] <;> rfl) (by decide) ?_
        refine lv_aload_n hx hb dX1_takeBack_96 rfl (lv_at hl 5 rfl) ?_
        refine lv_iload hx hb dX1_takeBack_97 (lv_at hl 1 rfl) ?_
        refine lv_iload hx hb dX1_takeBack_99 (lv_at hl 0 rfl) ?_
        refine lv_aload_n hx hb dX1_takeBack_101 rfl (lv_at hl 4 rfl) ?_
        refine lv_iload hx hb dX1_takeBack_102 (lv_at hl 0 rfl) ?_
        refine zz_goip hB hA (zz_runV (As := [.int v54]) (rest := [.int v54, .int v46, .ref (a 21)]) hx hb hml hown zw hB zM_X1_34 (zc_X2_widthOf l D ca a I37 L H.size zz_isX_14 h) zdC_14 rfl rfl hl.1 rfl (Nat.le_of_ble_eq_true rfl) rfl rfl ⟨Nat.le_of_ble_eq_true rfl, Nat.le_of_ble_eq_true rfl⟩ dX1_takeBack_104 ⟨Nat.le_of_ble_eq_true rfl, Nat.le_of_ble_eq_true rfl⟩) (fun r104 H locs h hB => ?_)
        refine zz_gov hB hA (zz_runV (As := [.int v46, .int v54, .int r104]) (rest := []) hx hb hml hown zw hB zM_X1_40 (zc_X6_putSign l D ca a I37 L H.size zz_isT_21 h) zdC_21 rfl rfl hl.1 rfl (Nat.le_of_ble_eq_true rfl) rfl rfl ⟨Nat.le_of_ble_eq_true rfl, Nat.le_of_ble_eq_true rfl⟩ dX1_takeBack_107 ⟨Nat.le_of_ble_eq_true rfl, Nat.le_of_ble_eq_true rfl⟩) (fun I107 L107 H locs h hB => ?_)
        refine lv_goto (tgt := 184) hx hb dX1_takeBack_110 (by decide) ?_
        exact zz_vret hx hb hr hlocks hB h dX1_takeBack_184
      by_cases q62_1 : w62 = (1 : Int32)
      · have h := h.2.1 q62_1
        refine lv_tableIn (tgt := 113) hx hb dX1_takeBack_62 (by rw [q62_1] <;> decide) (by rw [q62_1] <;> decide) (by rw [q62_1] <;> rfl) (by decide) ?_
        refine lv_aload_n hx hb dX1_takeBack_113 rfl (lv_at hl 5 rfl) ?_
        refine lv_iload hx hb dX1_takeBack_114 (lv_at hl 1 rfl) ?_
        refine lv_aload_n hx hb dX1_takeBack_116 rfl (lv_at hl 4 rfl) ?_
        refine lv_iload hx hb dX1_takeBack_117 (lv_at hl 0 rfl) ?_
        refine zz_goip hB hA (zz_runV (As := [.int v54]) (rest := [.int v46, .ref (a 21)]) hx hb hml hown zw hB zM_X1_34 (zc_X2_widthOf l D ca a I37 L H.size zz_isX_14 h) zdC_14 rfl rfl hl.1 rfl (Nat.le_of_ble_eq_true rfl) rfl rfl ⟨Nat.le_of_ble_eq_true rfl, Nat.le_of_ble_eq_true rfl⟩ dX1_takeBack_119 ⟨Nat.le_of_ble_eq_true rfl, Nat.le_of_ble_eq_true rfl⟩) (fun r119 H locs h hB => ?_)
        refine zz_gov hB hA (zz_runV (As := [.int v46, .int r119]) (rest := []) hx hb hml hown zw hB zM_X1_46 (zc_X6_putGap l D ca a I37 L H.size zz_isT_21 h) zdC_21 rfl rfl hl.1 rfl (Nat.le_of_ble_eq_true rfl) rfl rfl ⟨Nat.le_of_ble_eq_true rfl, Nat.le_of_ble_eq_true rfl⟩ dX1_takeBack_122 ⟨Nat.le_of_ble_eq_true rfl, Nat.le_of_ble_eq_true rfl⟩) (fun I122 L122 H locs h hB => ?_)
        refine lv_goto (tgt := 184) hx hb dX1_takeBack_125 (by decide) ?_
        exact zz_vret hx hb hr hlocks hB h dX1_takeBack_184
      by_cases q62_2 : w62 = (2 : Int32)
      · have h := h.2.2.1 q62_2
        refine lv_tableIn (tgt := 128) hx hb dX1_takeBack_62 (by rw [q62_2] <;> decide) (by rw [q62_2] <;> decide) (by rw [q62_2] <;> rfl) (by decide) ?_
        refine lv_aload_n hx hb dX1_takeBack_128 rfl (lv_at hl 5 rfl) ?_
        refine lv_aload_n hx hb dX1_takeBack_129 rfl (lv_at hl 4 rfl) ?_
        refine lv_iload hx hb dX1_takeBack_130 (lv_at hl 1 rfl) ?_
        refine zz_goi hB hA (zz_runV (As := [.ref (a 14), .int v46]) (rest := []) hx hb hml hown zw hB zM_X1_50 (zc_X6_flipWord l D ca a I37 L H.size zz_isT_21 h) zdC_21 rfl rfl hl.1 rfl (Nat.le_of_ble_eq_true rfl) rfl rfl ⟨Nat.le_of_ble_eq_true rfl, Nat.le_of_ble_eq_true rfl⟩ dX1_takeBack_132 ⟨Nat.le_of_ble_eq_true rfl, Nat.le_of_ble_eq_true rfl⟩) (fun r132 I132 L132 H locs h hB => ?_)
        refine lv_pop hx hb dX1_takeBack_135 rfl ?_
        refine lv_goto (tgt := 184) hx hb dX1_takeBack_136 (by decide) ?_
        exact zz_vret hx hb hr hlocks hB h dX1_takeBack_184
      by_cases q62_3 : w62 = (3 : Int32)
      · have h := h.2.2.2.1 q62_3
        refine lv_tableIn (tgt := 139) hx hb dX1_takeBack_62 (by rw [q62_3] <;> decide) (by rw [q62_3] <;> decide) (by rw [q62_3] <;> rfl) (by decide) ?_
        refine lv_iload hx hb dX1_takeBack_139 (lv_at hl 1 rfl) ?_
        refine lv_if_lt (tgt := 184) hx hb dX1_takeBack_141 (by decide) (fun c141 => ?_) (fun c141 => ?_)
        · have h := h.1 c141
          exact zz_vret hx hb hr hlocks hB h dX1_takeBack_184
        · have h := h.2 c141
          refine lv_iload hx hb dX1_takeBack_144 (lv_at hl 1 rfl) ?_
          refine lv_bipush (v := (9 : Int32)) hx hb dX1_takeBack_146 (by decide) ?_
          refine lv_icmp_ge (tgt := 184) hx hb dX1_takeBack_148 (by decide) (fun c148 => ?_) (fun c148 => ?_)
          · have h := h.1 c148
            exact zz_vret hx hb hr hlocks hB h dX1_takeBack_184
          · have h := h.2 c148
            refine lv_aload_n hx hb dX1_takeBack_151 rfl (lv_at hl 5 rfl) ?_
            refine zz_getr (k' := 23) hx hb hown zw hB zF_X1_54 zdC_21 rfl rfl dX1_takeBack_152 ?_
            refine lv_iload hx hb dX1_takeBack_155 (lv_at hl 1 rfl) ?_
            refine lv_iload hx hb dX1_takeBack_157 (lv_at hl 0 rfl) ?_
            obtain ⟨hi159, h⟩ := h
            refine zz_iast hx hb hB zdC_23 hi159 dX1_takeBack_159 (fun H locs hB => ?_)
            obtain ⟨I159, eI159⟩ : ∃ z : zz_I, z = zz_up I37 23 v46.toNatClampNeg v54 := ⟨_, rfl⟩
            rw [← eI159] at hB
            have h := h I159 eI159
            refine lv_goto (tgt := 184) hx hb dX1_takeBack_160 (by decide) ?_
            exact zz_vret hx hb hr hlocks hB h dX1_takeBack_184
      by_cases q62_4 : w62 = (4 : Int32)
      · have h := h.2.2.2.2.1 q62_4
        refine lv_tableIn (tgt := 163) hx hb dX1_takeBack_62 (by rw [q62_4] <;> decide) (by rw [q62_4] <;> decide) (by rw [q62_4] <;> rfl) (by decide) ?_
        refine lv_aload_n hx hb dX1_takeBack_163 rfl (lv_at hl 4 rfl) ?_
        refine lv_iload hx hb dX1_takeBack_164 (lv_at hl 1 rfl) ?_
        refine zz_goip hB hA (zz_runV (As := [.int v46]) (rest := []) hx hb hml hown zw hB zM_X1_57 (zc_X2_hasWord l D ca a I37 L H.size h) zdC_14 rfl rfl hl.1 rfl (Nat.le_of_ble_eq_true rfl) rfl rfl ⟨Nat.le_of_ble_eq_true rfl, Nat.le_of_ble_eq_true rfl⟩ dX1_takeBack_166 ⟨Nat.le_of_ble_eq_true rfl, Nat.le_of_ble_eq_true rfl⟩) (fun r166 H locs h hB => ?_)
        refine lv_if_eq (tgt := 184) hx hb dX1_takeBack_169 (by decide) (fun c169 => ?_) (fun c169 => ?_)
        · have h := h.1 c169
          exact zz_vret hx hb hr hlocks hB h dX1_takeBack_184
        · have h := h.2 c169
          refine lv_aload_n hx hb dX1_takeBack_172 rfl (lv_at hl 5 rfl) ?_
          refine zz_getr (k' := 24) hx hb hown zw hB zF_X1_61 zdC_21 rfl rfl dX1_takeBack_173 ?_
          refine lv_iload hx hb dX1_takeBack_176 (lv_at hl 1 rfl) ?_
          refine lv_iload hx hb dX1_takeBack_178 (lv_at hl 0 rfl) ?_
          obtain ⟨hi180, h⟩ := h
          refine zz_iast hx hb hB zdC_24 hi180 dX1_takeBack_180 (fun H locs hB => ?_)
          obtain ⟨I180, eI180⟩ : ∃ z : zz_I, z = zz_up I37 24 v46.toNatClampNeg v54 := ⟨_, rfl⟩
          rw [← eI180] at hB
          have h := h I180 eI180
          refine lv_goto (tgt := 184) hx hb dX1_takeBack_181 (by decide) ?_
          exact zz_vret hx hb hr hlocks hB h dX1_takeBack_184
      have h := h.2.2.2.2.2 q62_0 q62_1 q62_2 q62_3 q62_4
      have hts62 : w62.toInt < 0 ∨ 4 < w62.toInt := by
        have z0 := zz_ne_int q62_0
        have z1 := zz_ne_int q62_1
        have z2 := zz_ne_int q62_2
        have z3 := zz_ne_int q62_3
        have z4 := zz_ne_int q62_4
        have e0 : ((0 : Int32)).toInt = 0 ∧ ((1 : Int32)).toInt = 1 ∧ ((2 : Int32)).toInt = 2 ∧ ((3 : Int32)).toInt = 3 ∧ ((4 : Int32)).toInt = 4 := by decide
        omega
      refine lv_tableOut (tgt := 184) hx hb dX1_takeBack_62 hts62 (by decide) ?_
      exact zz_vret hx hb hr hlocks hB h dX1_takeBack_184
    · have h := h.2 c21
      exact zz_vret hx hb hr hlocks hB h dX1_takeBack_24
theorem zc_X1_takeBack (l : Launch) (D : va_G) (ca : Nat → ClassId) (a : Nat → Nat) (I : zz_I) (L : zz_L) (sz : Nat)  {P : zz_I → zz_L → Prop}  (h : zp_X1_takeBack  P I L) : Met l yX1_takeBack [.code yX1_takeBack cX1_takeBack 6 none] ({ frames := 2, cells := 0, slots := 0, locals := 45 } : Room) (zz_Pre D ca zz_dC [.ref (a 29), .ref (a 14), .ref (a 21)] a I L sz) (zz_Qv D ca zz_dC (zz_A ca zz_dC a I L sz) a P) 0 0 (zz_A ca zz_dC a I L sz) :=
  zz_start (by decide) (Nat.le_of_ble_eq_true rfl) (fun p e s m below meth c X hsz hA => zq_X1_takeBack X hA  h)
def zp_X2_copyFrom  (P : zz_I → zz_L → Prop) (I : zz_I) (L : zz_L) : Prop := ∀ I12 : zz_I, I12 = zz_cp I 4 15 7 → (∀ I27 : zz_I, I27 = zz_cp I12 5 16 40 → (∀ I42 : zz_I, I42 = zz_cp I27 6 17 8 → (∀ I57 : zz_I, I57 = zz_cp I42 7 18 8 → (∀ I72 : zz_I, I72 = zz_cp I57 8 19 8 → (∀ I87 : zz_I, I87 = zz_cp I72 9 20 8 → (∀ I95 : zz_I, I95 = zz_up I87 14 6 (I87 3 6) → (P I95 L)))))))
set_option maxHeartbeats 4000000 in
set_option maxRecDepth 100000 in
theorem zq_X2_copyFrom {p : Program} {l : Launch} {e : Env} {s : State} {m : MethodId} {args : Array Value} {below : List Frame} {meth : Method} {c : Code} {D : va_G} {ca : Nat → ClassId} {A : Nat → Prop} {a : Nat → Nat}  {P : zz_I → zz_L → Prop} {I : zz_I} {L : zz_L}  (X : zz_X p s m meth c cX2_copyFrom RX2 none 2) (hA : ∀ q, s.heap.size ≤ q → A q)   (h : zp_X2_copyFrom  P I L) : zz_Go p l e ({ frames := 1, cells := 0, slots := 0, locals := 40 } : Room) s m args below meth c 0 0 (MQ below (zz_Qv D ca zz_dC A a P) args s 0 0 A) D ca zz_dC A 2 0 a [] [(0, .ref (a 14)), (1, .ref (a 3))] I L := by
  obtain ⟨hx, hb, hml, hown, zw, hr, hlocks⟩ := id X
  intro H locs ls hB hl
  unfold zp_X2_copyFrom at h
  refine lv_aload_n hx hb dX2_copyFrom_0 rfl (lv_at hl 1 rfl) ?_
  refine zz_getr (k' := 4) hx hb hown zw hB zF_X2_9 zdC_3 rfl rfl dX2_copyFrom_1 ?_
  refine lv_iconst (v := (0 : Int32)) hx hb dX2_copyFrom_4 (by decide) ?_
  refine lv_aload_n hx hb dX2_copyFrom_5 rfl (lv_at hl 0 rfl) ?_
  refine zz_getr (k' := 15) hx hb hown zw hB zF_X2_9 zdC_14 rfl rfl dX2_copyFrom_6 ?_
  refine lv_iconst (v := (0 : Int32)) hx hb dX2_copyFrom_9 (by decide) ?_
  refine lv_bipush (v := (7 : Int32)) hx hb dX2_copyFrom_10 (by decide) ?_
  refine zz_copy (nn := 7) hx hb (hml.trans hl.1.symm) hown zw zk_X2_acp hB zdC_4 zdC_15 rfl (Nat.le_of_ble_eq_true rfl) (Nat.le_of_ble_eq_true rfl) (Nat.le_of_ble_eq_true rfl) (Nat.le_of_ble_eq_true rfl) (Nat.le_of_ble_eq_true rfl) dX2_copyFrom_12 (fun H locs hB => ?_)
  obtain ⟨I12, eI12⟩ : ∃ z : zz_I, z = zz_cp I 4 15 7 := ⟨_, rfl⟩
  rw [← eI12] at hB
  have h := h I12 eI12
  refine lv_aload_n hx hb dX2_copyFrom_15 rfl (lv_at hl 1 rfl) ?_
  refine zz_getr (k' := 5) hx hb hown zw hB zF_X2_15 zdC_3 rfl rfl dX2_copyFrom_16 ?_
  refine lv_iconst (v := (0 : Int32)) hx hb dX2_copyFrom_19 (by decide) ?_
  refine lv_aload_n hx hb dX2_copyFrom_20 rfl (lv_at hl 0 rfl) ?_
  refine zz_getr (k' := 16) hx hb hown zw hB zF_X2_15 zdC_14 rfl rfl dX2_copyFrom_21 ?_
  refine lv_iconst (v := (0 : Int32)) hx hb dX2_copyFrom_24 (by decide) ?_
  refine lv_bipush (v := (40 : Int32)) hx hb dX2_copyFrom_25 (by decide) ?_
  refine zz_copy (nn := 40) hx hb (hml.trans hl.1.symm) hown zw zk_X2_acp hB zdC_5 zdC_16 rfl (Nat.le_of_ble_eq_true rfl) (Nat.le_of_ble_eq_true rfl) (Nat.le_of_ble_eq_true rfl) (Nat.le_of_ble_eq_true rfl) (Nat.le_of_ble_eq_true rfl) dX2_copyFrom_27 (fun H locs hB => ?_)
  obtain ⟨I27, eI27⟩ : ∃ z : zz_I, z = zz_cp I12 5 16 40 := ⟨_, rfl⟩
  rw [← eI27] at hB
  have h := h I27 eI27
  refine lv_aload_n hx hb dX2_copyFrom_30 rfl (lv_at hl 1 rfl) ?_
  refine zz_getr (k' := 6) hx hb hown zw hB zF_X2_18 zdC_3 rfl rfl dX2_copyFrom_31 ?_
  refine lv_iconst (v := (0 : Int32)) hx hb dX2_copyFrom_34 (by decide) ?_
  refine lv_aload_n hx hb dX2_copyFrom_35 rfl (lv_at hl 0 rfl) ?_
  refine zz_getr (k' := 17) hx hb hown zw hB zF_X2_18 zdC_14 rfl rfl dX2_copyFrom_36 ?_
  refine lv_iconst (v := (0 : Int32)) hx hb dX2_copyFrom_39 (by decide) ?_
  refine lv_bipush (v := (8 : Int32)) hx hb dX2_copyFrom_40 (by decide) ?_
  refine zz_copy (nn := 8) hx hb (hml.trans hl.1.symm) hown zw zk_X2_acp hB zdC_6 zdC_17 rfl (Nat.le_of_ble_eq_true rfl) (Nat.le_of_ble_eq_true rfl) (Nat.le_of_ble_eq_true rfl) (Nat.le_of_ble_eq_true rfl) (Nat.le_of_ble_eq_true rfl) dX2_copyFrom_42 (fun H locs hB => ?_)
  obtain ⟨I42, eI42⟩ : ∃ z : zz_I, z = zz_cp I27 6 17 8 := ⟨_, rfl⟩
  rw [← eI42] at hB
  have h := h I42 eI42
  refine lv_aload_n hx hb dX2_copyFrom_45 rfl (lv_at hl 1 rfl) ?_
  refine zz_getr (k' := 7) hx hb hown zw hB zF_X2_21 zdC_3 rfl rfl dX2_copyFrom_46 ?_
  refine lv_iconst (v := (0 : Int32)) hx hb dX2_copyFrom_49 (by decide) ?_
  refine lv_aload_n hx hb dX2_copyFrom_50 rfl (lv_at hl 0 rfl) ?_
  refine zz_getr (k' := 18) hx hb hown zw hB zF_X2_21 zdC_14 rfl rfl dX2_copyFrom_51 ?_
  refine lv_iconst (v := (0 : Int32)) hx hb dX2_copyFrom_54 (by decide) ?_
  refine lv_bipush (v := (8 : Int32)) hx hb dX2_copyFrom_55 (by decide) ?_
  refine zz_copy (nn := 8) hx hb (hml.trans hl.1.symm) hown zw zk_X2_acp hB zdC_7 zdC_18 rfl (Nat.le_of_ble_eq_true rfl) (Nat.le_of_ble_eq_true rfl) (Nat.le_of_ble_eq_true rfl) (Nat.le_of_ble_eq_true rfl) (Nat.le_of_ble_eq_true rfl) dX2_copyFrom_57 (fun H locs hB => ?_)
  obtain ⟨I57, eI57⟩ : ∃ z : zz_I, z = zz_cp I42 7 18 8 := ⟨_, rfl⟩
  rw [← eI57] at hB
  have h := h I57 eI57
  refine lv_aload_n hx hb dX2_copyFrom_60 rfl (lv_at hl 1 rfl) ?_
  refine zz_getr (k' := 8) hx hb hown zw hB zF_X2_24 zdC_3 rfl rfl dX2_copyFrom_61 ?_
  refine lv_iconst (v := (0 : Int32)) hx hb dX2_copyFrom_64 (by decide) ?_
  refine lv_aload_n hx hb dX2_copyFrom_65 rfl (lv_at hl 0 rfl) ?_
  refine zz_getr (k' := 19) hx hb hown zw hB zF_X2_24 zdC_14 rfl rfl dX2_copyFrom_66 ?_
  refine lv_iconst (v := (0 : Int32)) hx hb dX2_copyFrom_69 (by decide) ?_
  refine lv_bipush (v := (8 : Int32)) hx hb dX2_copyFrom_70 (by decide) ?_
  refine zz_copy (nn := 8) hx hb (hml.trans hl.1.symm) hown zw zk_X2_acp hB zdC_8 zdC_19 rfl (Nat.le_of_ble_eq_true rfl) (Nat.le_of_ble_eq_true rfl) (Nat.le_of_ble_eq_true rfl) (Nat.le_of_ble_eq_true rfl) (Nat.le_of_ble_eq_true rfl) dX2_copyFrom_72 (fun H locs hB => ?_)
  obtain ⟨I72, eI72⟩ : ∃ z : zz_I, z = zz_cp I57 8 19 8 := ⟨_, rfl⟩
  rw [← eI72] at hB
  have h := h I72 eI72
  refine lv_aload_n hx hb dX2_copyFrom_75 rfl (lv_at hl 1 rfl) ?_
  refine zz_getr (k' := 9) hx hb hown zw hB zF_X2_27 zdC_3 rfl rfl dX2_copyFrom_76 ?_
  refine lv_iconst (v := (0 : Int32)) hx hb dX2_copyFrom_79 (by decide) ?_
  refine lv_aload_n hx hb dX2_copyFrom_80 rfl (lv_at hl 0 rfl) ?_
  refine zz_getr (k' := 20) hx hb hown zw hB zF_X2_27 zdC_14 rfl rfl dX2_copyFrom_81 ?_
  refine lv_iconst (v := (0 : Int32)) hx hb dX2_copyFrom_84 (by decide) ?_
  refine lv_bipush (v := (8 : Int32)) hx hb dX2_copyFrom_85 (by decide) ?_
  refine zz_copy (nn := 8) hx hb (hml.trans hl.1.symm) hown zw zk_X2_acp hB zdC_9 zdC_20 rfl (Nat.le_of_ble_eq_true rfl) (Nat.le_of_ble_eq_true rfl) (Nat.le_of_ble_eq_true rfl) (Nat.le_of_ble_eq_true rfl) (Nat.le_of_ble_eq_true rfl) dX2_copyFrom_87 (fun H locs hB => ?_)
  obtain ⟨I87, eI87⟩ : ∃ z : zz_I, z = zz_cp I72 9 20 8 := ⟨_, rfl⟩
  rw [← eI87] at hB
  have h := h I87 eI87
  refine lv_aload_n hx hb dX2_copyFrom_90 rfl (lv_at hl 0 rfl) ?_
  refine lv_aload_n hx hb dX2_copyFrom_91 rfl (lv_at hl 1 rfl) ?_
  refine zz_geti hx hb hown zw hB zF_X2_30 zdC_3 rfl dX2_copyFrom_92 ?_
  refine zz_puti hx hb hown zw hB zP_X2_30 zdC_14 rfl dX2_copyFrom_95 (fun H locs hB => ?_)
  obtain ⟨I95, eI95⟩ : ∃ z : zz_I, z = zz_up I87 14 6 (I87 3 6) := ⟨_, rfl⟩
  rw [← eI95] at hB
  have h := h I95 eI95
  exact zz_vret hx hb hr hlocks hB h dX2_copyFrom_98
theorem zc_X2_copyFrom (l : Launch) (D : va_G) (ca : Nat → ClassId) (a : Nat → Nat) (I : zz_I) (L : zz_L) (sz : Nat)  {P : zz_I → zz_L → Prop}  (h : zp_X2_copyFrom  P I L) : Met l yX2_copyFrom [.code yX2_copyFrom cX2_copyFrom 2 none] ({ frames := 1, cells := 0, slots := 0, locals := 40 } : Room) (zz_Pre D ca zz_dC [.ref (a 14), .ref (a 3)] a I L sz) (zz_Qv D ca zz_dC (zz_A ca zz_dC a I L sz) a P) 0 0 (zz_A ca zz_dC a I L sz) :=
  zz_start (by decide) (Nat.le_of_ble_eq_true rfl) (fun p e s m below meth c X hsz hA => zq_X2_copyFrom X hA  h)
def zp_X3_rowOf (x0 : Int32) (x1 : Int32) (P : Int32 → Prop) (I : zz_I) (L : zz_L) : Prop := P (((x0 * (8 : Int32)) + x1) * (73 : Int32))
set_option maxHeartbeats 4000000 in
set_option maxRecDepth 100000 in
theorem zq_X3_rowOf {p : Program} {l : Launch} {e : Env} {s : State} {m : MethodId} {args : Array Value} {below : List Frame} {meth : Method} {c : Code} {D : va_G} {ca : Nat → ClassId} {A : Nat → Prop} {a : Nat → Nat}  {P : Int32 → Prop} {I : zz_I} {L : zz_L} {x0 : Int32} {x1 : Int32} (X : zz_X p s m meth c cX3_rowOf RX3 (some .int) 2) (hA : ∀ q, s.heap.size ≤ q → A q)   (h : zp_X3_rowOf x0 x1 P I L) : zz_Go p l e ({ frames := 0, cells := 0, slots := 0, locals := 0 } : Room) s m args below meth c 0 0 (MQ below (zz_Qi D ca zz_dC A a (fun r I9 L9 => P r ∧ I9 = I ∧ L9 = L)) args s 0 0 A) D ca zz_dC A 2 0 a [] [(0, .int x0), (1, .int x1)] I L := by
  obtain ⟨hx, hb, hml, hown, zw, hr, hlocks⟩ := id X
  intro H locs ls hB hl
  unfold zp_X3_rowOf at h
  refine lv_iload_n hx hb dX3_rowOf_0 rfl (lv_at hl 0 rfl) ?_
  refine lv_bipush (v := (8 : Int32)) hx hb dX3_rowOf_1 (by decide) ?_
  refine lv_imul hx hb dX3_rowOf_3 ?_
  refine lv_iload_n hx hb dX3_rowOf_4 rfl (lv_at hl 1 rfl) ?_
  refine lv_iadd hx hb dX3_rowOf_5 ?_
  refine lv_bipush (v := (73 : Int32)) hx hb dX3_rowOf_6 (by decide) ?_
  refine lv_imul hx hb dX3_rowOf_8 ?_
  exact zz_iret hx hb hr hlocks hB ⟨h, rfl, rfl⟩ dX3_rowOf_9
theorem zc_X3_rowOf (l : Launch) (D : va_G) (ca : Nat → ClassId) (a : Nat → Nat) (I : zz_I) (L : zz_L) (sz : Nat) {x0 : Int32} {x1 : Int32} {P : Int32 → Prop}  (h : zp_X3_rowOf x0 x1 P I L) : Met l yX3_rowOf [.code yX3_rowOf cX3_rowOf 2 (some .int)] ({ frames := 0, cells := 0, slots := 0, locals := 0 } : Room) (zz_Pre D ca zz_dC [.int x0, .int x1] a I L sz) (zz_Qi D ca zz_dC (zz_A ca zz_dC a I L sz) a (fun r I9 L9 => P r ∧ I9 = I ∧ L9 = L)) 0 0 (zz_A ca zz_dC a I L sz) :=
  zz_start (by decide) (Nat.le_of_ble_eq_true rfl) (fun p e s m below meth c X hsz hA => zq_X3_rowOf X hA  h)
def zp_X3_countWithWeight_5b (K5 : Int64 → Int32 → Prop) (P : Int64 → Prop) (x2 : Int32) (x3 : Int64) (x5 : Int32) (I : zz_I) (L : zz_L) : Prop := ((I 37 7) ≤ x5 → P x3) ∧ (¬ (I 37 7) ≤ x5 → zp_X0_isOpen (0 : Int32) x5 (fun r18 => (r18 = 0 → ∀ v40 : Int32, v40 = x5 + (1 : Int32) → (K5 x3 v40)) ∧ (¬ r18 = 0 → zp_X3_rowOf (0 : Int32) x5 (fun r32 => vp_in (r32 + x2) (I 45 0).toNatClampNeg ∧ (∀ v39 : Int64, v39 = x3 + (L 45 (r32 + x2).toNatClampNeg) → (∀ v40 : Int32, v40 = x5 + (1 : Int32) → (K5 v39 v40)))) I L)) I L)
set_option maxHeartbeats 4000000 in
set_option maxRecDepth 100000 in
theorem zq_X3_countWithWeight_5b {p : Program} {l : Launch} {e : Env} {s : State} {m : MethodId} {args : Array Value} {below : List Frame} {meth : Method} {c : Code} {D : va_G} {ca : Nat → ClassId} {A : Nat → Prop} {a : Nat → Nat} {K5 : Int64 → Int32 → Prop} {P : Int64 → Prop} {I : zz_I} {L : zz_L} {x2 : Int32} {x3 : Int64} {x5 : Int32} (X : zz_X p s m meth c cX3_countWithWeight RX3 (some .long) 6) (hA : ∀ q, s.heap.size ≤ q → A q)  (hK5 : ∀ (y3 : Int64) (y5 : Int32), K5 y3 y5 → zz_Go p l e ({ frames := 1, cells := 0, slots := 0, locals := 22 } : Room) s m args below meth c 0 0 (MQ below (zz_Ql D ca zz_dC A a (fun r I9 L9 => P r ∧ I9 = I ∧ L9 = L)) args s 0 0 A) D ca zz_dC A 6 5 a [] [(0, .ref (a 44)), (1, .ref (a 37)), (2, .int x2), (3, .long y3), (5, .int y5)] I L) (h : zp_X3_countWithWeight_5b K5 P x2 x3 x5 I L) : zz_Go p l e ({ frames := 1, cells := 0, slots := 0, locals := 22 } : Room) s m args below meth c 0 0 (MQ below (zz_Ql D ca zz_dC A a (fun r I9 L9 => P r ∧ I9 = I ∧ L9 = L)) args s 0 0 A) D ca zz_dC A 6 5 a [] [(0, .ref (a 44)), (1, .ref (a 37)), (2, .int x2), (3, .long x3), (5, .int x5)] I L := by
  obtain ⟨hx, hb, hml, hown, zw, hr, hlocks⟩ := id X
  intro H locs ls hB hl
  unfold zp_X3_countWithWeight_5b at h
  refine lv_iload hx hb dX3_countWithWeight_5 (lv_at hl 4 rfl) ?_
  refine lv_aload_n hx hb dX3_countWithWeight_7 rfl (lv_at hl 1 rfl) ?_
  refine zz_geti hx hb hown zw hB zF_X3_40 zdC_37 rfl dX3_countWithWeight_8 ?_
  refine lv_icmp_ge (tgt := 46) hx hb dX3_countWithWeight_11 (by decide) (fun c11 => ?_) (fun c11 => ?_)
  · have h := h.1 c11
    refine lv_lload_n hx hb dX3_countWithWeight_46 rfl (lv_at hl 3 rfl) ?_
    exact zz_lret hx hb hr hlocks hB ⟨h, rfl, rfl⟩ dX3_countWithWeight_47
  · have h := h.2 c11
    refine lv_aload_n hx hb dX3_countWithWeight_14 rfl (lv_at hl 1 rfl) ?_
    refine lv_iconst (v := (0 : Int32)) hx hb dX3_countWithWeight_15 (by decide) ?_
    refine lv_iload hx hb dX3_countWithWeight_16 (lv_at hl 4 rfl) ?_
    refine zz_goip hB hA (zz_runV (As := [.int (0 : Int32), .int x5]) (rest := []) hx hb hml hown zw hB zM_X3_43 (zc_X0_isOpen l D ca a I L H.size h) zdC_37 rfl rfl hl.1 rfl (Nat.le_of_ble_eq_true rfl) rfl rfl ⟨Nat.le_of_ble_eq_true rfl, Nat.le_of_ble_eq_true rfl⟩ dX3_countWithWeight_18 ⟨Nat.le_of_ble_eq_true rfl, Nat.le_of_ble_eq_true rfl⟩) (fun r18 H locs h hB => ?_)
    refine lv_if_eq (tgt := 40) hx hb dX3_countWithWeight_21 (by decide) (fun c21 => ?_) (fun c21 => ?_)
    · have h := h.1 c21
      obtain ⟨v40, ev40⟩ : ∃ z : Int32, z = x5 + (1 : Int32) := ⟨_, rfl⟩
      have h := h v40 ev40
      refine lv_iinc (v := v40) (lv' := [(5, .int v40), (0, .ref (a 44)), (1, .ref (a 37)), (2, .int x2), (3, .long x3)]) hx hb dX3_countWithWeight_40 hl (k := 4) rfl (by rw [ev40]; rfl) (by decide) rfl (fun ls hl => ?_)
      refine lv_goto (tgt := 5) hx hb dX3_countWithWeight_43 (by decide) ?_
      exact hK5 _ _ h H locs ls hB (lv_sub hl [1, 2, 3, 4, 0] rfl)
    · have h := h.2 c21
      refine lv_lload_n hx hb dX3_countWithWeight_24 rfl (lv_at hl 3 rfl) ?_
      refine lv_aload_n hx hb dX3_countWithWeight_25 rfl (lv_at hl 0 rfl) ?_
      refine zz_getr (k' := 45) hx hb hown zw hB zF_X3_9 zdC_44 rfl rfl dX3_countWithWeight_26 ?_
      refine lv_iconst (v := (0 : Int32)) hx hb dX3_countWithWeight_29 (by decide) ?_
      refine lv_iload hx hb dX3_countWithWeight_30 (lv_at hl 4 rfl) ?_
      refine zz_goip hB hA (zz_runS (As := [.int (0 : Int32), .int x5]) (rest := [.ref (a 45), .long x3]) hx hb hml hown zw hB zM_X3_51 (zc_X3_rowOf l D ca a I L H.size h) rfl hl.1 rfl (Nat.le_of_ble_eq_true rfl) rfl rfl ⟨Nat.le_of_ble_eq_true rfl, Nat.le_of_ble_eq_true rfl⟩ dX3_countWithWeight_32 ⟨Nat.le_of_ble_eq_true rfl, Nat.le_of_ble_eq_true rfl⟩) (fun r32 H locs h hB => ?_)
      refine lv_iload_n hx hb dX3_countWithWeight_35 rfl (lv_at hl 2 rfl) ?_
      refine lv_iadd hx hb dX3_countWithWeight_36 ?_
      obtain ⟨hi37, h⟩ := h
      refine zz_lald3 hx hb hB zdC_45 hi37 dX3_countWithWeight_37 ?_
      refine lv_ladd hx hb dX3_countWithWeight_38 ?_
      refine lv_topl (fun v39 ev39 => ?_)
      have h := h v39 ev39
      refine lv_lstore_n (lv' := [(3, .long v39), (0, .ref (a 44)), (1, .ref (a 37)), (2, .int x2), (5, .int x5)]) hx hb dX3_countWithWeight_39 rfl hl (by decide) rfl (fun ls hl => ?_)
      obtain ⟨v40, ev40⟩ : ∃ z : Int32, z = x5 + (1 : Int32) := ⟨_, rfl⟩
      have h := h v40 ev40
      refine lv_iinc (v := v40) (lv' := [(5, .int v40), (3, .long v39), (0, .ref (a 44)), (1, .ref (a 37)), (2, .int x2)]) hx hb dX3_countWithWeight_40 hl (k := 4) rfl (by rw [ev40]; rfl) (by decide) rfl (fun ls hl => ?_)
      refine lv_goto (tgt := 5) hx hb dX3_countWithWeight_43 (by decide) ?_
      exact hK5 _ _ h H locs ls hB (lv_sub hl [2, 3, 4, 1, 0] rfl)
def zp_X3_countWithWeight_5  (P : Int64 → Prop) (x2 : Int32) (x3 : Int64) (x5 : Int32) (I : zz_I) (L : zz_L) : Prop := ∃ (Inv : Int64 → Int32 → Prop) (μ : Int64 → Int32 → Nat), Inv x3 x5 ∧ ∀ (y3 : Int64) (y5 : Int32), Inv y3 y5 → zp_X3_countWithWeight_5b  (fun z3 z5 => Inv z3 z5 ∧ μ z3 z5 < μ y3 y5) P x2 y3 y5 I L
set_option maxHeartbeats 4000000 in
set_option maxRecDepth 100000 in
theorem zq_X3_countWithWeight_5 {p : Program} {l : Launch} {e : Env} {s : State} {m : MethodId} {args : Array Value} {below : List Frame} {meth : Method} {c : Code} {D : va_G} {ca : Nat → ClassId} {A : Nat → Prop} {a : Nat → Nat}  {P : Int64 → Prop} {I : zz_I} {L : zz_L} {x2 : Int32} {x3 : Int64} {x5 : Int32} (X : zz_X p s m meth c cX3_countWithWeight RX3 (some .long) 6) (hA : ∀ q, s.heap.size ≤ q → A q)   (h : zp_X3_countWithWeight_5  P x2 x3 x5 I L) : zz_Go p l e ({ frames := 1, cells := 0, slots := 0, locals := 22 } : Room) s m args below meth c 0 0 (MQ below (zz_Ql D ca zz_dC A a (fun r I9 L9 => P r ∧ I9 = I ∧ L9 = L)) args s 0 0 A) D ca zz_dC A 6 5 a [] [(0, .ref (a 44)), (1, .ref (a 37)), (2, .int x2), (3, .long x3), (5, .int x5)] I L := by
  unfold zp_X3_countWithWeight_5 at h
  obtain ⟨Inv, μ, hv0, hs⟩ := h
  have key : ∀ (n9 : Nat) (y3 : Int64) (y5 : Int32), μ y3 y5 < n9 → Inv y3 y5 → zz_Go p l e ({ frames := 1, cells := 0, slots := 0, locals := 22 } : Room) s m args below meth c 0 0 (MQ below (zz_Ql D ca zz_dC A a (fun r I9 L9 => P r ∧ I9 = I ∧ L9 = L)) args s 0 0 A) D ca zz_dC A 6 5 a [] [(0, .ref (a 44)), (1, .ref (a 37)), (2, .int x2), (3, .long y3), (5, .int y5)] I L := by
    intro n9
    induction n9 with
    | zero => intro y3 y5 hn; exact absurd hn (Nat.not_lt_zero _)
    | succ n9 ih =>
      intro y3 y5 hn hi
      exact zq_X3_countWithWeight_5b (K5 := (fun z3 z5 => Inv z3 z5 ∧ μ z3 z5 < μ y3 y5)) X hA   (fun z3 z5 hz => ih z3 z5 (Nat.lt_of_lt_of_le hz.2 (Nat.le_of_lt_succ hn)) hz.1) (hs y3 y5 hi)
  exact key _ x3 x5 (Nat.lt_succ_self _) hv0
def zp_X3_countWithWeight (x2 : Int32) (P : Int64 → Prop) (I : zz_I) (L : zz_L) : Prop := zp_X3_countWithWeight_5 P x2 (0 : Int64) (0 : Int32) I L
set_option maxHeartbeats 4000000 in
set_option maxRecDepth 100000 in
theorem zq_X3_countWithWeight {p : Program} {l : Launch} {e : Env} {s : State} {m : MethodId} {args : Array Value} {below : List Frame} {meth : Method} {c : Code} {D : va_G} {ca : Nat → ClassId} {A : Nat → Prop} {a : Nat → Nat}  {P : Int64 → Prop} {I : zz_I} {L : zz_L} {x2 : Int32} (X : zz_X p s m meth c cX3_countWithWeight RX3 (some .long) 6) (hA : ∀ q, s.heap.size ≤ q → A q)   (h : zp_X3_countWithWeight x2 P I L) : zz_Go p l e ({ frames := 1, cells := 0, slots := 0, locals := 22 } : Room) s m args below meth c 0 0 (MQ below (zz_Ql D ca zz_dC A a (fun r I9 L9 => P r ∧ I9 = I ∧ L9 = L)) args s 0 0 A) D ca zz_dC A 6 0 a [] [(0, .ref (a 44)), (1, .ref (a 37)), (2, .int x2)] I L := by
  obtain ⟨hx, hb, hml, hown, zw, hr, hlocks⟩ := id X
  intro H locs ls hB hl
  unfold zp_X3_countWithWeight at h
  refine lv_lconst (v := (0 : Int64)) hx hb dX3_countWithWeight_0 (by decide) ?_
  refine lv_lstore_n (lv' := [(3, .long (0 : Int64)), (0, .ref (a 44)), (1, .ref (a 37)), (2, .int x2)]) hx hb dX3_countWithWeight_1 rfl hl (by decide) rfl (fun ls hl => ?_)
  refine lv_iconst (v := (0 : Int32)) hx hb dX3_countWithWeight_2 (by decide) ?_
  refine lv_istore (lv' := [(5, .int (0 : Int32)), (3, .long (0 : Int64)), (0, .ref (a 44)), (1, .ref (a 37)), (2, .int x2)]) hx hb dX3_countWithWeight_3 hl (by decide) rfl (fun ls hl => ?_)
  exact zq_X3_countWithWeight_5 X hA  h H locs ls hB (lv_sub hl [2, 3, 4, 1, 0] rfl)
theorem zc_X3_countWithWeight (l : Launch) (D : va_G) (ca : Nat → ClassId) (a : Nat → Nat) (I : zz_I) (L : zz_L) (sz : Nat) {x2 : Int32} {P : Int64 → Prop}  (h : zp_X3_countWithWeight x2 P I L) : Met l yX3_countWithWeight [.code yX3_countWithWeight cX3_countWithWeight 6 (some .long)] ({ frames := 1, cells := 0, slots := 0, locals := 22 } : Room) (zz_Pre D ca zz_dC [.ref (a 44), .ref (a 37), .int x2] a I L sz) (zz_Ql D ca zz_dC (zz_A ca zz_dC a I L sz) a (fun r I9 L9 => P r ∧ I9 = I ∧ L9 = L)) 0 0 (zz_A ca zz_dC a I L sz) :=
  zz_start (by decide) (Nat.le_of_ble_eq_true rfl) (fun p e s m below meth c X hsz hA => zq_X3_countWithWeight X hA  h)
def zp_X3_endsOf_23  (P : Int64 → Prop) (x2 : Int32) (x3 : Int32) (x5 : Int32) (s0 : Int32) (I : zz_I) (L : zz_L) : Prop := (s0 = 0 → P (0 : Int64)) ∧ (¬ s0 = 0 → (x5 < 0 → P (0 : Int64)) ∧ (¬ x5 < 0 → ((72 : Int32) < x5 → P (0 : Int64)) ∧ (¬ (72 : Int32) < x5 → zp_X3_rowOf x2 x3 (fun r48 => vp_in (r48 + x5) (I 45 0).toNatClampNeg ∧ (P (L 45 (r48 + x5).toNatClampNeg))) I L)))
set_option maxHeartbeats 4000000 in
set_option maxRecDepth 100000 in
theorem zq_X3_endsOf_23 {p : Program} {l : Launch} {e : Env} {s : State} {m : MethodId} {args : Array Value} {below : List Frame} {meth : Method} {c : Code} {D : va_G} {ca : Nat → ClassId} {A : Nat → Prop} {a : Nat → Nat}  {P : Int64 → Prop} {I : zz_I} {L : zz_L} {x2 : Int32} {x3 : Int32} {x5 : Int32} {s0 : Int32} (X : zz_X p s m meth c cX3_endsOf RX3 (some .long) 7) (hA : ∀ q, s.heap.size ≤ q → A q)   (h : zp_X3_endsOf_23  P x2 x3 x5 s0 I L) : zz_Go p l e ({ frames := 1, cells := 0, slots := 0, locals := 22 } : Room) s m args below meth c 0 0 (MQ below (zz_Ql D ca zz_dC A a (fun r I9 L9 => P r ∧ I9 = I ∧ L9 = L)) args s 0 0 A) D ca zz_dC A 7 23 a [.int s0] [(0, .ref (a 44)), (2, .int x2), (3, .int x3), (5, .int x5)] I L := by
  obtain ⟨hx, hb, hml, hown, zw, hr, hlocks⟩ := id X
  intro H locs ls hB hl
  unfold zp_X3_endsOf_23 at h
  refine lv_istore (lv' := [(6, .int s0), (0, .ref (a 44)), (2, .int x2), (3, .int x3), (5, .int x5)]) hx hb dX3_endsOf_23 hl (by decide) rfl (fun ls hl => ?_)
  refine lv_iload hx hb dX3_endsOf_25 (lv_at hl 0 rfl) ?_
  refine lv_if_eq (tgt := 58) hx hb dX3_endsOf_27 (by decide) (fun c27 => ?_) (fun c27 => ?_)
  · have h := h.1 c27
    refine lv_lconst (v := (0 : Int64)) hx hb dX3_endsOf_58 (by decide) ?_
    exact zz_lret hx hb hr hlocks hB ⟨h, rfl, rfl⟩ dX3_endsOf_59
  · have h := h.2 c27
    refine lv_iload hx hb dX3_endsOf_30 (lv_at hl 4 rfl) ?_
    refine lv_if_lt (tgt := 58) hx hb dX3_endsOf_32 (by decide) (fun c32 => ?_) (fun c32 => ?_)
    · have h := h.1 c32
      refine lv_lconst (v := (0 : Int64)) hx hb dX3_endsOf_58 (by decide) ?_
      exact zz_lret hx hb hr hlocks hB ⟨h, rfl, rfl⟩ dX3_endsOf_59
    · have h := h.2 c32
      refine lv_iload hx hb dX3_endsOf_35 (lv_at hl 4 rfl) ?_
      refine lv_bipush (v := (72 : Int32)) hx hb dX3_endsOf_37 (by decide) ?_
      refine lv_icmp_gt (tgt := 58) hx hb dX3_endsOf_39 (by decide) (fun c39 => ?_) (fun c39 => ?_)
      · have h := h.1 c39
        refine lv_lconst (v := (0 : Int64)) hx hb dX3_endsOf_58 (by decide) ?_
        exact zz_lret hx hb hr hlocks hB ⟨h, rfl, rfl⟩ dX3_endsOf_59
      · have h := h.2 c39
        refine lv_aload_n hx hb dX3_endsOf_42 rfl (lv_at hl 1 rfl) ?_
        refine zz_getr (k' := 45) hx hb hown zw hB zF_X3_9 zdC_44 rfl rfl dX3_endsOf_43 ?_
        refine lv_iload_n hx hb dX3_endsOf_46 rfl (lv_at hl 2 rfl) ?_
        refine lv_iload_n hx hb dX3_endsOf_47 rfl (lv_at hl 3 rfl) ?_
        refine zz_goip hB hA (zz_runS (As := [.int x2, .int x3]) (rest := [.ref (a 45)]) hx hb hml hown zw hB zM_X3_51 (zc_X3_rowOf l D ca a I L H.size h) rfl hl.1 rfl (Nat.le_of_ble_eq_true rfl) rfl rfl ⟨Nat.le_of_ble_eq_true rfl, Nat.le_of_ble_eq_true rfl⟩ dX3_endsOf_48 ⟨Nat.le_of_ble_eq_true rfl, Nat.le_of_ble_eq_true rfl⟩) (fun r48 H locs h hB => ?_)
        refine lv_iload hx hb dX3_endsOf_51 (lv_at hl 4 rfl) ?_
        refine lv_iadd hx hb dX3_endsOf_53 ?_
        obtain ⟨hi54, h⟩ := h
        refine zz_lald3 hx hb hB zdC_45 hi54 dX3_endsOf_54 ?_
        refine lv_goto (tgt := 59) hx hb dX3_endsOf_55 (by decide) ?_
        exact zz_lret hx hb hr hlocks hB ⟨h, rfl, rfl⟩ dX3_endsOf_59
def zp_X3_endsOf (x2 : Int32) (x3 : Int32) (x4 : Int32) (x5 : Int32) (P : Int64 → Prop) (I : zz_I) (L : zz_L) : Prop := zp_X0_isOpen x2 x3 (fun r3 => (r3 = 0 → zp_X3_endsOf_23 P x2 x3 x5 (0 : Int32) I L) ∧ (¬ r3 = 0 → (((x4 >>> (x3 &&& 31)) &&& (1 : Int32)) = 0 → zp_X3_endsOf_23 P x2 x3 x5 (0 : Int32) I L) ∧ (¬ ((x4 >>> (x3 &&& 31)) &&& (1 : Int32)) = 0 → zp_X3_endsOf_23 P x2 x3 x5 (1 : Int32) I L))) I L
set_option maxHeartbeats 4000000 in
set_option maxRecDepth 100000 in
theorem zq_X3_endsOf {p : Program} {l : Launch} {e : Env} {s : State} {m : MethodId} {args : Array Value} {below : List Frame} {meth : Method} {c : Code} {D : va_G} {ca : Nat → ClassId} {A : Nat → Prop} {a : Nat → Nat}  {P : Int64 → Prop} {I : zz_I} {L : zz_L} {x2 : Int32} {x3 : Int32} {x4 : Int32} {x5 : Int32} (X : zz_X p s m meth c cX3_endsOf RX3 (some .long) 7) (hA : ∀ q, s.heap.size ≤ q → A q)   (h : zp_X3_endsOf x2 x3 x4 x5 P I L) : zz_Go p l e ({ frames := 1, cells := 0, slots := 0, locals := 22 } : Room) s m args below meth c 0 0 (MQ below (zz_Ql D ca zz_dC A a (fun r I9 L9 => P r ∧ I9 = I ∧ L9 = L)) args s 0 0 A) D ca zz_dC A 7 0 a [] [(0, .ref (a 44)), (1, .ref (a 37)), (2, .int x2), (3, .int x3), (4, .int x4), (5, .int x5)] I L := by
  obtain ⟨hx, hb, hml, hown, zw, hr, hlocks⟩ := id X
  intro H locs ls hB hl
  unfold zp_X3_endsOf at h
  refine lv_aload_n hx hb dX3_endsOf_0 rfl (lv_at hl 1 rfl) ?_
  refine lv_iload_n hx hb dX3_endsOf_1 rfl (lv_at hl 2 rfl) ?_
  refine lv_iload_n hx hb dX3_endsOf_2 rfl (lv_at hl 3 rfl) ?_
  refine zz_goip hB hA (zz_runV (As := [.int x2, .int x3]) (rest := []) hx hb hml hown zw hB zM_X3_43 (zc_X0_isOpen l D ca a I L H.size h) zdC_37 rfl rfl hl.1 rfl (Nat.le_of_ble_eq_true rfl) rfl rfl ⟨Nat.le_of_ble_eq_true rfl, Nat.le_of_ble_eq_true rfl⟩ dX3_endsOf_3 ⟨Nat.le_of_ble_eq_true rfl, Nat.le_of_ble_eq_true rfl⟩) (fun r3 H locs h hB => ?_)
  refine lv_if_eq (tgt := 22) hx hb dX3_endsOf_6 (by decide) (fun c6 => ?_) (fun c6 => ?_)
  · have h := h.1 c6
    refine lv_iconst (v := (0 : Int32)) hx hb dX3_endsOf_22 (by decide) ?_
    exact zq_X3_endsOf_23 X hA  h H locs ls hB (lv_sub hl [0, 2, 3, 5] rfl)
  · have h := h.2 c6
    refine lv_iload hx hb dX3_endsOf_9 (lv_at hl 4 rfl) ?_
    refine lv_iload_n hx hb dX3_endsOf_11 rfl (lv_at hl 3 rfl) ?_
    refine lv_ishr hx hb dX3_endsOf_12 ?_
    refine lv_iconst (v := (1 : Int32)) hx hb dX3_endsOf_13 (by decide) ?_
    refine lv_iand hx hb dX3_endsOf_14 ?_
    refine lv_if_eq (tgt := 22) hx hb dX3_endsOf_15 (by decide) (fun c15 => ?_) (fun c15 => ?_)
    · have h := h.1 c15
      refine lv_iconst (v := (0 : Int32)) hx hb dX3_endsOf_22 (by decide) ?_
      exact zq_X3_endsOf_23 X hA  h H locs ls hB (lv_sub hl [0, 2, 3, 5] rfl)
    · have h := h.2 c15
      refine lv_iconst (v := (1 : Int32)) hx hb dX3_endsOf_18 (by decide) ?_
      refine lv_goto (tgt := 23) hx hb dX3_endsOf_19 (by decide) ?_
      exact zq_X3_endsOf_23 X hA  h H locs ls hB (lv_sub hl [0, 2, 3, 5] rfl)
theorem zc_X3_endsOf (l : Launch) (D : va_G) (ca : Nat → ClassId) (a : Nat → Nat) (I : zz_I) (L : zz_L) (sz : Nat) {x2 : Int32} {x3 : Int32} {x4 : Int32} {x5 : Int32} {P : Int64 → Prop}  (h : zp_X3_endsOf x2 x3 x4 x5 P I L) : Met l yX3_endsOf [.code yX3_endsOf cX3_endsOf 7 (some .long)] ({ frames := 1, cells := 0, slots := 0, locals := 22 } : Room) (zz_Pre D ca zz_dC [.ref (a 44), .ref (a 37), .int x2, .int x3, .int x4, .int x5] a I L sz) (zz_Ql D ca zz_dC (zz_A ca zz_dC a I L sz) a (fun r I9 L9 => P r ∧ I9 = I ∧ L9 = L)) 0 0 (zz_A ca zz_dC a I L sz) :=
  zz_start (by decide) (Nat.le_of_ble_eq_true rfl) (fun p e s m below meth c X hsz hA => zq_X3_endsOf X hA  h)
def zp_X3_heaviestFrom (x1 : Int32) (P : Int32 → Prop) (I : zz_I) (L : zz_L) : Prop := P (((((I 37 6) - x1) + (1 : Int32)) / (3 : Int32)) * (9 : Int32))
set_option maxHeartbeats 4000000 in
set_option maxRecDepth 100000 in
theorem zq_X3_heaviestFrom {p : Program} {l : Launch} {e : Env} {s : State} {m : MethodId} {args : Array Value} {below : List Frame} {meth : Method} {c : Code} {D : va_G} {ca : Nat → ClassId} {A : Nat → Prop} {a : Nat → Nat}  {P : Int32 → Prop} {I : zz_I} {L : zz_L} {x1 : Int32} (X : zz_X p s m meth c cX3_heaviestFrom RX3 (some .int) 2) (hA : ∀ q, s.heap.size ≤ q → A q)   (h : zp_X3_heaviestFrom x1 P I L) : zz_Go p l e ({ frames := 0, cells := 0, slots := 0, locals := 0 } : Room) s m args below meth c 0 0 (MQ below (zz_Qi D ca zz_dC A a (fun r I9 L9 => P r ∧ I9 = I ∧ L9 = L)) args s 0 0 A) D ca zz_dC A 2 0 a [] [(0, .ref (a 37)), (1, .int x1)] I L := by
  obtain ⟨hx, hb, hml, hown, zw, hr, hlocks⟩ := id X
  intro H locs ls hB hl
  unfold zp_X3_heaviestFrom at h
  refine lv_aload_n hx hb dX3_heaviestFrom_0 rfl (lv_at hl 0 rfl) ?_
  refine zz_geti hx hb hown zw hB zF_X3_35 zdC_37 rfl dX3_heaviestFrom_1 ?_
  refine lv_iload_n hx hb dX3_heaviestFrom_4 rfl (lv_at hl 1 rfl) ?_
  refine lv_isub hx hb dX3_heaviestFrom_5 ?_
  refine lv_iconst (v := (1 : Int32)) hx hb dX3_heaviestFrom_6 (by decide) ?_
  refine lv_iadd hx hb dX3_heaviestFrom_7 ?_
  refine lv_iconst (v := (3 : Int32)) hx hb dX3_heaviestFrom_8 (by decide) ?_
  refine lv_idiv hx hb dX3_heaviestFrom_9 (by decide) ?_
  refine lv_bipush (v := (9 : Int32)) hx hb dX3_heaviestFrom_10 (by decide) ?_
  refine lv_imul hx hb dX3_heaviestFrom_12 ?_
  exact zz_iret hx hb hr hlocks hB ⟨h, rfl, rfl⟩ dX3_heaviestFrom_13
theorem zc_X3_heaviestFrom (l : Launch) (D : va_G) (ca : Nat → ClassId) (a : Nat → Nat) (I : zz_I) (L : zz_L) (sz : Nat) {x1 : Int32} {P : Int32 → Prop}  (h : zp_X3_heaviestFrom x1 P I L) : Met l yX3_heaviestFrom [.code yX3_heaviestFrom cX3_heaviestFrom 2 (some .int)] ({ frames := 0, cells := 0, slots := 0, locals := 0 } : Room) (zz_Pre D ca zz_dC [.ref (a 37), .int x1] a I L sz) (zz_Qi D ca zz_dC (zz_A ca zz_dC a I L sz) a (fun r I9 L9 => P r ∧ I9 = I ∧ L9 = L)) 0 0 (zz_A ca zz_dC a I L sz) :=
  zz_start (by decide) (Nat.le_of_ble_eq_true rfl) (fun p e s m below meth c X hsz hA => zq_X3_heaviestFrom X hA  h)
def zp_X3_fillRow_136b (K90 : Int32 → zz_I → zz_L → Prop) (K136 : Int32 → zz_I → zz_L → Prop) (P : zz_I → zz_L → Prop) (x3 : Int32) (x4 : Int32) (x5 : Int32) (x6 : Int32) (x7 : Int32) (x8 : Int32) (x9 : Int32) (x10 : Int32) (I : zz_I) (L : zz_L) : Prop := (x7 < x10 → ∀ v175 : Int32, v175 = x8 + (1 : Int32) → (K90 v175 I L)) ∧ (¬ x7 < x10 → vp_in ((x4 + x5) + x10) (I 45 0).toNatClampNeg ∧ (vp_in (x9 + x10) (I 45 0).toNatClampNeg ∧ (vp_in ((x4 + x5) + x10) (I 45 0).toNatClampNeg ∧ (∀ L168 : zz_L, L168 = zz_up L 45 ((x4 + x5) + x10).toNatClampNeg ((L 45 ((x4 + x5) + x10).toNatClampNeg) + (L 45 (x9 + x10).toNatClampNeg)) → (∀ v169 : Int32, v169 = x10 + (1 : Int32) → (K136 v169 I L168))))))
set_option maxHeartbeats 4000000 in
set_option maxRecDepth 100000 in
theorem zq_X3_fillRow_136b {p : Program} {l : Launch} {e : Env} {s : State} {m : MethodId} {args : Array Value} {below : List Frame} {meth : Method} {c : Code} {D : va_G} {ca : Nat → ClassId} {A : Nat → Prop} {a : Nat → Nat} {K90 : Int32 → zz_I → zz_L → Prop} {K136 : Int32 → zz_I → zz_L → Prop} {P : zz_I → zz_L → Prop} {I : zz_I} {L : zz_L} {x3 : Int32} {x4 : Int32} {x5 : Int32} {x6 : Int32} {x7 : Int32} {x8 : Int32} {x9 : Int32} {x10 : Int32} (X : zz_X p s m meth c cX3_fillRow RX3 none 11) (hA : ∀ q, s.heap.size ≤ q → A q)  (hK90 : ∀ (y8 : Int32) (I8 : zz_I) (L8 : zz_L), K90 y8 I8 L8 → zz_Go p l e ({ frames := 1, cells := 0, slots := 0, locals := 22 } : Room) s m args below meth c 0 0 (MQ below (zz_Qv D ca zz_dC A a P) args s 0 0 A) D ca zz_dC A 11 90 a [] [(0, .ref (a 44)), (1, .ref (a 37)), (3, .int x3), (4, .int x4), (5, .int x5), (6, .int x6), (7, .int x7), (8, .int y8)] I8 L8) (hK136 : ∀ (y10 : Int32) (I8 : zz_I) (L8 : zz_L), K136 y10 I8 L8 → zz_Go p l e ({ frames := 1, cells := 0, slots := 0, locals := 22 } : Room) s m args below meth c 0 0 (MQ below (zz_Qv D ca zz_dC A a P) args s 0 0 A) D ca zz_dC A 11 136 a [] [(0, .ref (a 44)), (1, .ref (a 37)), (3, .int x3), (4, .int x4), (5, .int x5), (6, .int x6), (7, .int x7), (8, .int x8), (9, .int x9), (10, .int y10)] I8 L8) (h : zp_X3_fillRow_136b K90 K136 P x3 x4 x5 x6 x7 x8 x9 x10 I L) : zz_Go p l e ({ frames := 1, cells := 0, slots := 0, locals := 22 } : Room) s m args below meth c 0 0 (MQ below (zz_Qv D ca zz_dC A a P) args s 0 0 A) D ca zz_dC A 11 136 a [] [(0, .ref (a 44)), (1, .ref (a 37)), (3, .int x3), (4, .int x4), (5, .int x5), (6, .int x6), (7, .int x7), (8, .int x8), (9, .int x9), (10, .int x10)] I L := by
  obtain ⟨hx, hb, hml, hown, zw, hr, hlocks⟩ := id X
  intro H locs ls hB hl
  unfold zp_X3_fillRow_136b at h
  refine lv_iload hx hb dX3_fillRow_136 (lv_at hl 9 rfl) ?_
  refine lv_iload hx hb dX3_fillRow_138 (lv_at hl 6 rfl) ?_
  refine lv_icmp_gt (tgt := 175) hx hb dX3_fillRow_140 (by decide) (fun c140 => ?_) (fun c140 => ?_)
  · have h := h.1 c140
    obtain ⟨v175, ev175⟩ : ∃ z : Int32, z = x8 + (1 : Int32) := ⟨_, rfl⟩
    have h := h v175 ev175
    refine lv_iinc (v := v175) (lv' := [(8, .int v175), (0, .ref (a 44)), (1, .ref (a 37)), (3, .int x3), (4, .int x4), (5, .int x5), (6, .int x6), (7, .int x7), (9, .int x9), (10, .int x10)]) hx hb dX3_fillRow_175 hl (k := 7) rfl (by rw [ev175]; rfl) (by decide) rfl (fun ls hl => ?_)
    refine lv_goto (tgt := 90) hx hb dX3_fillRow_178 (by decide) ?_
    exact hK90 _ _ _ h H locs ls hB (lv_sub hl [1, 2, 3, 4, 5, 6, 7, 0] rfl)
  · have h := h.2 c140
    refine lv_aload_n hx hb dX3_fillRow_143 rfl (lv_at hl 0 rfl) ?_
    refine zz_getr (k' := 45) hx hb hown zw hB zF_X3_9 zdC_44 rfl rfl dX3_fillRow_144 ?_
    refine lv_iload hx hb dX3_fillRow_147 (lv_at hl 3 rfl) ?_
    refine lv_iload hx hb dX3_fillRow_149 (lv_at hl 4 rfl) ?_
    refine lv_iadd hx hb dX3_fillRow_151 ?_
    refine lv_iload hx hb dX3_fillRow_152 (lv_at hl 9 rfl) ?_
    refine lv_iadd hx hb dX3_fillRow_154 ?_
    refine lv_dup2_11 hx hb dX3_fillRow_155 rfl rfl ?_
    obtain ⟨hi156, h⟩ := h
    refine zz_lald3 hx hb hB zdC_45 hi156 dX3_fillRow_156 ?_
    refine lv_aload_n hx hb dX3_fillRow_157 rfl (lv_at hl 0 rfl) ?_
    refine zz_getr (k' := 45) hx hb hown zw hB zF_X3_9 zdC_44 rfl rfl dX3_fillRow_158 ?_
    refine lv_iload hx hb dX3_fillRow_161 (lv_at hl 8 rfl) ?_
    refine lv_iload hx hb dX3_fillRow_163 (lv_at hl 9 rfl) ?_
    refine lv_iadd hx hb dX3_fillRow_165 ?_
    obtain ⟨hi166, h⟩ := h
    refine zz_lald3 hx hb hB zdC_45 hi166 dX3_fillRow_166 ?_
    refine lv_ladd hx hb dX3_fillRow_167 ?_
    obtain ⟨hi168, h⟩ := h
    refine zz_last3 hx hb hB zdC_45 hi168 dX3_fillRow_168 (fun H locs hB => ?_)
    obtain ⟨L168, eL168⟩ : ∃ z : zz_L, z = zz_up L 45 ((x4 + x5) + x10).toNatClampNeg ((L 45 ((x4 + x5) + x10).toNatClampNeg) + (L 45 (x9 + x10).toNatClampNeg)) := ⟨_, rfl⟩
    rw [← eL168] at hB
    have h := h L168 eL168
    obtain ⟨v169, ev169⟩ : ∃ z : Int32, z = x10 + (1 : Int32) := ⟨_, rfl⟩
    have h := h v169 ev169
    refine lv_iinc (v := v169) (lv' := [(10, .int v169), (0, .ref (a 44)), (1, .ref (a 37)), (3, .int x3), (4, .int x4), (5, .int x5), (6, .int x6), (7, .int x7), (8, .int x8), (9, .int x9)]) hx hb dX3_fillRow_169 hl (k := 9) rfl (by rw [ev169]; rfl) (by decide) rfl (fun ls hl => ?_)
    refine lv_goto (tgt := 136) hx hb dX3_fillRow_172 (by decide) ?_
    exact hK136 _ _ _ h H locs ls hB (lv_sub hl [1, 2, 3, 4, 5, 6, 7, 8, 9, 0] rfl)
def zp_X3_fillRow_136 (K90 : Int32 → zz_I → zz_L → Prop) (P : zz_I → zz_L → Prop) (x3 : Int32) (x4 : Int32) (x5 : Int32) (x6 : Int32) (x7 : Int32) (x8 : Int32) (x9 : Int32) (x10 : Int32) (I : zz_I) (L : zz_L) : Prop := ∃ (Inv : Int32 → zz_I → zz_L → Prop) (μ : Int32 → zz_I → zz_L → Nat), Inv x10 I L ∧ ∀ (y10 : Int32) (I8 : zz_I) (L8 : zz_L), Inv y10 I8 L8 → zp_X3_fillRow_136b K90 (fun z10 I7 L7 => Inv z10 I7 L7 ∧ μ z10 I7 L7 < μ y10 I8 L8) P x3 x4 x5 x6 x7 x8 x9 y10 I8 L8
set_option maxHeartbeats 4000000 in
set_option maxRecDepth 100000 in
theorem zq_X3_fillRow_136 {p : Program} {l : Launch} {e : Env} {s : State} {m : MethodId} {args : Array Value} {below : List Frame} {meth : Method} {c : Code} {D : va_G} {ca : Nat → ClassId} {A : Nat → Prop} {a : Nat → Nat} {K90 : Int32 → zz_I → zz_L → Prop} {P : zz_I → zz_L → Prop} {I : zz_I} {L : zz_L} {x3 : Int32} {x4 : Int32} {x5 : Int32} {x6 : Int32} {x7 : Int32} {x8 : Int32} {x9 : Int32} {x10 : Int32} (X : zz_X p s m meth c cX3_fillRow RX3 none 11) (hA : ∀ q, s.heap.size ≤ q → A q)  (hK90 : ∀ (y8 : Int32) (I8 : zz_I) (L8 : zz_L), K90 y8 I8 L8 → zz_Go p l e ({ frames := 1, cells := 0, slots := 0, locals := 22 } : Room) s m args below meth c 0 0 (MQ below (zz_Qv D ca zz_dC A a P) args s 0 0 A) D ca zz_dC A 11 90 a [] [(0, .ref (a 44)), (1, .ref (a 37)), (3, .int x3), (4, .int x4), (5, .int x5), (6, .int x6), (7, .int x7), (8, .int y8)] I8 L8) (h : zp_X3_fillRow_136 K90 P x3 x4 x5 x6 x7 x8 x9 x10 I L) : zz_Go p l e ({ frames := 1, cells := 0, slots := 0, locals := 22 } : Room) s m args below meth c 0 0 (MQ below (zz_Qv D ca zz_dC A a P) args s 0 0 A) D ca zz_dC A 11 136 a [] [(0, .ref (a 44)), (1, .ref (a 37)), (3, .int x3), (4, .int x4), (5, .int x5), (6, .int x6), (7, .int x7), (8, .int x8), (9, .int x9), (10, .int x10)] I L := by
  unfold zp_X3_fillRow_136 at h
  obtain ⟨Inv, μ, hv0, hs⟩ := h
  have key : ∀ (n9 : Nat) (y10 : Int32) (I8 : zz_I) (L8 : zz_L), μ y10 I8 L8 < n9 → Inv y10 I8 L8 → zz_Go p l e ({ frames := 1, cells := 0, slots := 0, locals := 22 } : Room) s m args below meth c 0 0 (MQ below (zz_Qv D ca zz_dC A a P) args s 0 0 A) D ca zz_dC A 11 136 a [] [(0, .ref (a 44)), (1, .ref (a 37)), (3, .int x3), (4, .int x4), (5, .int x5), (6, .int x6), (7, .int x7), (8, .int x8), (9, .int x9), (10, .int y10)] I8 L8 := by
    intro n9
    induction n9 with
    | zero => intro y10 I8 L8 hn; exact absurd hn (Nat.not_lt_zero _)
    | succ n9 ih =>
      intro y10 I8 L8 hn hi
      exact zq_X3_fillRow_136b (K136 := (fun z10 I7 L7 => Inv z10 I7 L7 ∧ μ z10 I7 L7 < μ y10 I8 L8)) X hA  hK90 (fun z10 I7 L7 hz => ih z10 I7 L7 (Nat.lt_of_lt_of_le hz.2 (Nat.le_of_lt_succ hn)) hz.1) (hs y10 I8 L8 hi)
  exact key _ x10 I L (Nat.lt_succ_self _) hv0
def zp_X3_fillRow_90b (K90 : Int32 → zz_I → zz_L → Prop) (P : zz_I → zz_L → Prop) (x3 : Int32) (x4 : Int32) (x5 : Int32) (x6 : Int32) (x7 : Int32) (x8 : Int32) (I : zz_I) (L : zz_L) : Prop := ((I 37 7) ≤ x8 → P I L) ∧ (¬ (I 37 7) ≤ x8 → zp_X0_isOpen x6 x8 (fun r104 => (r104 = 0 → ∀ v175 : Int32, v175 = x8 + (1 : Int32) → (K90 v175 I L)) ∧ (¬ r104 = 0 → vp_in x3 8 ∧ (((((I 40 x3.toNatClampNeg) >>> (x8 &&& 31)) &&& (1 : Int32)) = 0 → ∀ v175 : Int32, v175 = x8 + (1 : Int32) → (K90 v175 I L)) ∧ (¬ (((I 40 x3.toNatClampNeg) >>> (x8 &&& 31)) &&& (1 : Int32)) = 0 → zp_X3_rowOf x6 x8 (fun r128 => zp_X3_fillRow_136 K90 P x3 x4 x5 x6 x7 x8 r128 (1 : Int32) I L) I L)))) I L)
set_option maxHeartbeats 4000000 in
set_option maxRecDepth 100000 in
theorem zq_X3_fillRow_90b {p : Program} {l : Launch} {e : Env} {s : State} {m : MethodId} {args : Array Value} {below : List Frame} {meth : Method} {c : Code} {D : va_G} {ca : Nat → ClassId} {A : Nat → Prop} {a : Nat → Nat} {K90 : Int32 → zz_I → zz_L → Prop} {P : zz_I → zz_L → Prop} {I : zz_I} {L : zz_L} {x3 : Int32} {x4 : Int32} {x5 : Int32} {x6 : Int32} {x7 : Int32} {x8 : Int32} (X : zz_X p s m meth c cX3_fillRow RX3 none 11) (hA : ∀ q, s.heap.size ≤ q → A q)  (hK90 : ∀ (y8 : Int32) (I8 : zz_I) (L8 : zz_L), K90 y8 I8 L8 → zz_Go p l e ({ frames := 1, cells := 0, slots := 0, locals := 22 } : Room) s m args below meth c 0 0 (MQ below (zz_Qv D ca zz_dC A a P) args s 0 0 A) D ca zz_dC A 11 90 a [] [(0, .ref (a 44)), (1, .ref (a 37)), (3, .int x3), (4, .int x4), (5, .int x5), (6, .int x6), (7, .int x7), (8, .int y8)] I8 L8) (h : zp_X3_fillRow_90b K90 P x3 x4 x5 x6 x7 x8 I L) : zz_Go p l e ({ frames := 1, cells := 0, slots := 0, locals := 22 } : Room) s m args below meth c 0 0 (MQ below (zz_Qv D ca zz_dC A a P) args s 0 0 A) D ca zz_dC A 11 90 a [] [(0, .ref (a 44)), (1, .ref (a 37)), (3, .int x3), (4, .int x4), (5, .int x5), (6, .int x6), (7, .int x7), (8, .int x8)] I L := by
  obtain ⟨hx, hb, hml, hown, zw, hr, hlocks⟩ := id X
  intro H locs ls hB hl
  unfold zp_X3_fillRow_90b at h
  refine lv_iload hx hb dX3_fillRow_90 (lv_at hl 7 rfl) ?_
  refine lv_aload_n hx hb dX3_fillRow_92 rfl (lv_at hl 1 rfl) ?_
  refine zz_geti hx hb hown zw hB zF_X3_40 zdC_37 rfl dX3_fillRow_93 ?_
  refine lv_icmp_ge (tgt := 181) hx hb dX3_fillRow_96 (by decide) (fun c96 => ?_) (fun c96 => ?_)
  · have h := h.1 c96
    exact zz_vret hx hb hr hlocks hB h dX3_fillRow_181
  · have h := h.2 c96
    refine lv_aload_n hx hb dX3_fillRow_99 rfl (lv_at hl 1 rfl) ?_
    refine lv_iload hx hb dX3_fillRow_100 (lv_at hl 5 rfl) ?_
    refine lv_iload hx hb dX3_fillRow_102 (lv_at hl 7 rfl) ?_
    refine zz_goip hB hA (zz_runV (As := [.int x6, .int x8]) (rest := []) hx hb hml hown zw hB zM_X3_43 (zc_X0_isOpen l D ca a I L H.size h) zdC_37 rfl rfl hl.1 rfl (Nat.le_of_ble_eq_true rfl) rfl rfl ⟨Nat.le_of_ble_eq_true rfl, Nat.le_of_ble_eq_true rfl⟩ dX3_fillRow_104 ⟨Nat.le_of_ble_eq_true rfl, Nat.le_of_ble_eq_true rfl⟩) (fun r104 H locs h hB => ?_)
    refine lv_if_eq (tgt := 175) hx hb dX3_fillRow_107 (by decide) (fun c107 => ?_) (fun c107 => ?_)
    · have h := h.1 c107
      obtain ⟨v175, ev175⟩ : ∃ z : Int32, z = x8 + (1 : Int32) := ⟨_, rfl⟩
      have h := h v175 ev175
      refine lv_iinc (v := v175) (lv' := [(8, .int v175), (0, .ref (a 44)), (1, .ref (a 37)), (3, .int x3), (4, .int x4), (5, .int x5), (6, .int x6), (7, .int x7)]) hx hb dX3_fillRow_175 hl (k := 7) rfl (by rw [ev175]; rfl) (by decide) rfl (fun ls hl => ?_)
      refine lv_goto (tgt := 90) hx hb dX3_fillRow_178 (by decide) ?_
      exact hK90 _ _ _ h H locs ls hB (lv_sub hl [1, 2, 3, 4, 5, 6, 7, 0] rfl)
    · have h := h.2 c107
      refine lv_aload_n hx hb dX3_fillRow_110 rfl (lv_at hl 1 rfl) ?_
      refine zz_getr (k' := 40) hx hb hown zw hB zF_X3_67 zdC_37 rfl rfl dX3_fillRow_111 ?_
      refine lv_iload_n hx hb dX3_fillRow_114 rfl (lv_at hl 2 rfl) ?_
      obtain ⟨hi115, h⟩ := h
      refine zz_iald hx hb hB zdC_40 hi115 dX3_fillRow_115 ?_
      refine lv_iload hx hb dX3_fillRow_116 (lv_at hl 7 rfl) ?_
      refine lv_ishr hx hb dX3_fillRow_118 ?_
      refine lv_iconst (v := (1 : Int32)) hx hb dX3_fillRow_119 (by decide) ?_
      refine lv_iand hx hb dX3_fillRow_120 ?_
      refine lv_if_eq (tgt := 175) hx hb dX3_fillRow_121 (by decide) (fun c121 => ?_) (fun c121 => ?_)
      · have h := h.1 c121
        obtain ⟨v175, ev175⟩ : ∃ z : Int32, z = x8 + (1 : Int32) := ⟨_, rfl⟩
        have h := h v175 ev175
        refine lv_iinc (v := v175) (lv' := [(8, .int v175), (0, .ref (a 44)), (1, .ref (a 37)), (3, .int x3), (4, .int x4), (5, .int x5), (6, .int x6), (7, .int x7)]) hx hb dX3_fillRow_175 hl (k := 7) rfl (by rw [ev175]; rfl) (by decide) rfl (fun ls hl => ?_)
        refine lv_goto (tgt := 90) hx hb dX3_fillRow_178 (by decide) ?_
        exact hK90 _ _ _ h H locs ls hB (lv_sub hl [1, 2, 3, 4, 5, 6, 7, 0] rfl)
      · have h := h.2 c121
        refine lv_iload hx hb dX3_fillRow_124 (lv_at hl 5 rfl) ?_
        refine lv_iload hx hb dX3_fillRow_126 (lv_at hl 7 rfl) ?_
        refine zz_goip hB hA (zz_runS (As := [.int x6, .int x8]) (rest := []) hx hb hml hown zw hB zM_X3_51 (zc_X3_rowOf l D ca a I L H.size h) rfl hl.1 rfl (Nat.le_of_ble_eq_true rfl) rfl rfl ⟨Nat.le_of_ble_eq_true rfl, Nat.le_of_ble_eq_true rfl⟩ dX3_fillRow_128 ⟨Nat.le_of_ble_eq_true rfl, Nat.le_of_ble_eq_true rfl⟩) (fun r128 H locs h hB => ?_)
        refine lv_istore (lv' := [(9, .int r128), (0, .ref (a 44)), (1, .ref (a 37)), (3, .int x3), (4, .int x4), (5, .int x5), (6, .int x6), (7, .int x7), (8, .int x8)]) hx hb dX3_fillRow_131 hl (by decide) rfl (fun ls hl => ?_)
        refine lv_iconst (v := (1 : Int32)) hx hb dX3_fillRow_133 (by decide) ?_
        refine lv_istore (lv' := [(10, .int (1 : Int32)), (9, .int r128), (0, .ref (a 44)), (1, .ref (a 37)), (3, .int x3), (4, .int x4), (5, .int x5), (6, .int x6), (7, .int x7), (8, .int x8)]) hx hb dX3_fillRow_134 hl (by decide) rfl (fun ls hl => ?_)
        exact zq_X3_fillRow_136 X hA hK90 h H locs ls hB (lv_sub hl [2, 3, 4, 5, 6, 7, 8, 9, 1, 0] rfl)
def zp_X3_fillRow_90  (P : zz_I → zz_L → Prop) (x3 : Int32) (x4 : Int32) (x5 : Int32) (x6 : Int32) (x7 : Int32) (x8 : Int32) (I : zz_I) (L : zz_L) : Prop := ∃ (Inv : Int32 → zz_I → zz_L → Prop) (μ : Int32 → zz_I → zz_L → Nat), Inv x8 I L ∧ ∀ (y8 : Int32) (I8 : zz_I) (L8 : zz_L), Inv y8 I8 L8 → zp_X3_fillRow_90b  (fun z8 I7 L7 => Inv z8 I7 L7 ∧ μ z8 I7 L7 < μ y8 I8 L8) P x3 x4 x5 x6 x7 y8 I8 L8
set_option maxHeartbeats 4000000 in
set_option maxRecDepth 100000 in
theorem zq_X3_fillRow_90 {p : Program} {l : Launch} {e : Env} {s : State} {m : MethodId} {args : Array Value} {below : List Frame} {meth : Method} {c : Code} {D : va_G} {ca : Nat → ClassId} {A : Nat → Prop} {a : Nat → Nat}  {P : zz_I → zz_L → Prop} {I : zz_I} {L : zz_L} {x3 : Int32} {x4 : Int32} {x5 : Int32} {x6 : Int32} {x7 : Int32} {x8 : Int32} (X : zz_X p s m meth c cX3_fillRow RX3 none 11) (hA : ∀ q, s.heap.size ≤ q → A q)   (h : zp_X3_fillRow_90  P x3 x4 x5 x6 x7 x8 I L) : zz_Go p l e ({ frames := 1, cells := 0, slots := 0, locals := 22 } : Room) s m args below meth c 0 0 (MQ below (zz_Qv D ca zz_dC A a P) args s 0 0 A) D ca zz_dC A 11 90 a [] [(0, .ref (a 44)), (1, .ref (a 37)), (3, .int x3), (4, .int x4), (5, .int x5), (6, .int x6), (7, .int x7), (8, .int x8)] I L := by
  unfold zp_X3_fillRow_90 at h
  obtain ⟨Inv, μ, hv0, hs⟩ := h
  have key : ∀ (n9 : Nat) (y8 : Int32) (I8 : zz_I) (L8 : zz_L), μ y8 I8 L8 < n9 → Inv y8 I8 L8 → zz_Go p l e ({ frames := 1, cells := 0, slots := 0, locals := 22 } : Room) s m args below meth c 0 0 (MQ below (zz_Qv D ca zz_dC A a P) args s 0 0 A) D ca zz_dC A 11 90 a [] [(0, .ref (a 44)), (1, .ref (a 37)), (3, .int x3), (4, .int x4), (5, .int x5), (6, .int x6), (7, .int x7), (8, .int y8)] I8 L8 := by
    intro n9
    induction n9 with
    | zero => intro y8 I8 L8 hn; exact absurd hn (Nat.not_lt_zero _)
    | succ n9 ih =>
      intro y8 I8 L8 hn hi
      exact zq_X3_fillRow_90b (K90 := (fun z8 I7 L7 => Inv z8 I7 L7 ∧ μ z8 I7 L7 < μ y8 I8 L8)) X hA   (fun z8 I7 L7 hz => ih z8 I7 L7 (Nat.lt_of_lt_of_le hz.2 (Nat.le_of_lt_succ hn)) hz.1) (hs y8 I8 L8 hi)
  exact key _ x8 I L (Nat.lt_succ_self _) hv0
def zp_X3_fillRow_18b (K18 : Int32 → zz_I → zz_L → Prop) (P : zz_I → zz_L → Prop) (x2 : Int32) (x3 : Int32) (x4 : Int32) (x5 : Int32) (x6 : Int32) (I : zz_I) (L : zz_L) : Prop := ((73 : Int32) ≤ x6 → zp_X0_nextUnit x2 x3 (fun r45 => (r45 ≤ (I 37 6) → zp_X3_heaviestFrom r45 (fun r74 => ∀ v85 : Int32, v85 = (if ((72 : Int32) - x5) < r74 then ((72 : Int32) - x5) else r74) → (zp_X3_fillRow_90 P x3 x4 x5 r45 v85 (0 : Int32) I L)) I L) ∧ (¬ r45 ≤ (I 37 6) → vp_in (x4 + x5) (I 45 0).toNatClampNeg ∧ (∀ L69 : zz_L, L69 = zz_up L 45 (x4 + x5).toNatClampNeg (1 : Int64) → (P I L69)))) I L) ∧ (¬ (73 : Int32) ≤ x6 → vp_in (x4 + x6) (I 45 0).toNatClampNeg ∧ (∀ L35 : zz_L, L35 = zz_up L 45 (x4 + x6).toNatClampNeg (0 : Int64) → (∀ v36 : Int32, v36 = x6 + (1 : Int32) → (K18 v36 I L35))))
set_option maxHeartbeats 4000000 in
set_option maxRecDepth 100000 in
theorem zq_X3_fillRow_18b {p : Program} {l : Launch} {e : Env} {s : State} {m : MethodId} {args : Array Value} {below : List Frame} {meth : Method} {c : Code} {D : va_G} {ca : Nat → ClassId} {A : Nat → Prop} {a : Nat → Nat} {K18 : Int32 → zz_I → zz_L → Prop} {P : zz_I → zz_L → Prop} {I : zz_I} {L : zz_L} {x2 : Int32} {x3 : Int32} {x4 : Int32} {x5 : Int32} {x6 : Int32} (X : zz_X p s m meth c cX3_fillRow RX3 none 11) (hA : ∀ q, s.heap.size ≤ q → A q)  (hK18 : ∀ (y6 : Int32) (I8 : zz_I) (L8 : zz_L), K18 y6 I8 L8 → zz_Go p l e ({ frames := 1, cells := 0, slots := 0, locals := 22 } : Room) s m args below meth c 0 0 (MQ below (zz_Qv D ca zz_dC A a P) args s 0 0 A) D ca zz_dC A 11 18 a [] [(0, .ref (a 44)), (1, .ref (a 37)), (2, .int x2), (3, .int x3), (4, .int x4), (5, .int x5), (6, .int y6)] I8 L8) (h : zp_X3_fillRow_18b K18 P x2 x3 x4 x5 x6 I L) : zz_Go p l e ({ frames := 1, cells := 0, slots := 0, locals := 22 } : Room) s m args below meth c 0 0 (MQ below (zz_Qv D ca zz_dC A a P) args s 0 0 A) D ca zz_dC A 11 18 a [] [(0, .ref (a 44)), (1, .ref (a 37)), (2, .int x2), (3, .int x3), (4, .int x4), (5, .int x5), (6, .int x6)] I L := by
  obtain ⟨hx, hb, hml, hown, zw, hr, hlocks⟩ := id X
  intro H locs ls hB hl
  unfold zp_X3_fillRow_18b at h
  refine lv_iload hx hb dX3_fillRow_18 (lv_at hl 6 rfl) ?_
  refine lv_bipush (v := (73 : Int32)) hx hb dX3_fillRow_20 (by decide) ?_
  refine lv_icmp_ge (tgt := 42) hx hb dX3_fillRow_22 (by decide) (fun c22 => ?_) (fun c22 => ?_)
  · have h := h.1 c22
    refine lv_aload_n hx hb dX3_fillRow_42 rfl (lv_at hl 1 rfl) ?_
    refine lv_iload_n hx hb dX3_fillRow_43 rfl (lv_at hl 2 rfl) ?_
    refine lv_iload_n hx hb dX3_fillRow_44 rfl (lv_at hl 3 rfl) ?_
    refine zz_goip hB hA (zz_runV (As := [.int x2, .int x3]) (rest := []) hx hb hml hown zw hB zM_X3_55 (zc_X0_nextUnit l D ca a I L H.size h) zdC_37 rfl rfl hl.1 rfl (Nat.le_of_ble_eq_true rfl) rfl rfl ⟨Nat.le_of_ble_eq_true rfl, Nat.le_of_ble_eq_true rfl⟩ dX3_fillRow_45 ⟨Nat.le_of_ble_eq_true rfl, Nat.le_of_ble_eq_true rfl⟩) (fun r45 H locs h hB => ?_)
    refine lv_istore (lv' := [(6, .int r45), (0, .ref (a 44)), (1, .ref (a 37)), (2, .int x2), (3, .int x3), (4, .int x4), (5, .int x5)]) hx hb dX3_fillRow_48 hl (by decide) rfl (fun ls hl => ?_)
    refine lv_iload hx hb dX3_fillRow_50 (lv_at hl 0 rfl) ?_
    refine lv_aload_n hx hb dX3_fillRow_52 rfl (lv_at hl 2 rfl) ?_
    refine zz_geti hx hb hown zw hB zF_X3_35 zdC_37 rfl dX3_fillRow_53 ?_
    refine lv_icmp_le (tgt := 71) hx hb dX3_fillRow_56 (by decide) (fun c56 => ?_) (fun c56 => ?_)
    · have h := h.1 c56
      refine lv_aload_n hx hb dX3_fillRow_71 rfl (lv_at hl 2 rfl) ?_
      refine lv_iload hx hb dX3_fillRow_72 (lv_at hl 0 rfl) ?_
      refine zz_goip hB hA (zz_runS (As := [.ref (a 37), .int r45]) (rest := []) hx hb hml hown zw hB zM_X3_58 (zc_X3_heaviestFrom l D ca a I L H.size h) rfl hl.1 rfl (Nat.le_of_ble_eq_true rfl) rfl rfl ⟨Nat.le_of_ble_eq_true rfl, Nat.le_of_ble_eq_true rfl⟩ dX3_fillRow_74 ⟨Nat.le_of_ble_eq_true rfl, Nat.le_of_ble_eq_true rfl⟩) (fun r74 H locs h hB => ?_)
      refine lv_bipush (v := (72 : Int32)) hx hb dX3_fillRow_77 (by decide) ?_
      refine lv_iload hx hb dX3_fillRow_79 (lv_at hl 6 rfl) ?_
      refine lv_isub hx hb dX3_fillRow_81 ?_
      refine va_mmin hx hb (hml.trans hl.1.symm) hown (zz_W_use zw zk_X3_min rfl) (zz_W_use zw zk_min_s rfl) (zz_W_use zw zk_min_i rfl) (zz_W_use zw zk_min_c rfl) (Nat.le_of_ble_eq_true rfl) (Nat.le_of_ble_eq_true rfl) (Nat.zero_le _) (Nat.zero_le _) dX3_fillRow_82 ?_
      refine lv_topi (fun v85 ev85 => ?_)
      have h := h v85 ev85
      refine lv_istore (lv' := [(7, .int v85), (6, .int r45), (0, .ref (a 44)), (1, .ref (a 37)), (2, .int x2), (3, .int x3), (4, .int x4), (5, .int x5)]) hx hb dX3_fillRow_85 hl (by decide) rfl (fun ls hl => ?_)
      refine lv_iconst (v := (0 : Int32)) hx hb dX3_fillRow_87 (by decide) ?_
      refine lv_istore (lv' := [(8, .int (0 : Int32)), (7, .int v85), (6, .int r45), (0, .ref (a 44)), (1, .ref (a 37)), (2, .int x2), (3, .int x3), (4, .int x4), (5, .int x5)]) hx hb dX3_fillRow_88 hl (by decide) rfl (fun ls hl => ?_)
      exact zq_X3_fillRow_90 X hA  h H locs ls hB (lv_sub hl [3, 4, 6, 7, 8, 2, 1, 0] rfl)
    · have h := h.2 c56
      refine lv_aload_n hx hb dX3_fillRow_59 rfl (lv_at hl 1 rfl) ?_
      refine zz_getr (k' := 45) hx hb hown zw hB zF_X3_9 zdC_44 rfl rfl dX3_fillRow_60 ?_
      refine lv_iload hx hb dX3_fillRow_63 (lv_at hl 5 rfl) ?_
      refine lv_iload hx hb dX3_fillRow_65 (lv_at hl 6 rfl) ?_
      refine lv_iadd hx hb dX3_fillRow_67 ?_
      refine lv_lconst (v := (1 : Int64)) hx hb dX3_fillRow_68 (by decide) ?_
      obtain ⟨hi69, h⟩ := h
      refine zz_last3 hx hb hB zdC_45 hi69 dX3_fillRow_69 (fun H locs hB => ?_)
      obtain ⟨L69, eL69⟩ : ∃ z : zz_L, z = zz_up L 45 (x4 + x5).toNatClampNeg (1 : Int64) := ⟨_, rfl⟩
      rw [← eL69] at hB
      have h := h L69 eL69
      exact zz_vret hx hb hr hlocks hB h dX3_fillRow_70
  · have h := h.2 c22
    refine lv_aload_n hx hb dX3_fillRow_25 rfl (lv_at hl 0 rfl) ?_
    refine zz_getr (k' := 45) hx hb hown zw hB zF_X3_9 zdC_44 rfl rfl dX3_fillRow_26 ?_
    refine lv_iload hx hb dX3_fillRow_29 (lv_at hl 4 rfl) ?_
    refine lv_iload hx hb dX3_fillRow_31 (lv_at hl 6 rfl) ?_
    refine lv_iadd hx hb dX3_fillRow_33 ?_
    refine lv_lconst (v := (0 : Int64)) hx hb dX3_fillRow_34 (by decide) ?_
    obtain ⟨hi35, h⟩ := h
    refine zz_last3 hx hb hB zdC_45 hi35 dX3_fillRow_35 (fun H locs hB => ?_)
    obtain ⟨L35, eL35⟩ : ∃ z : zz_L, z = zz_up L 45 (x4 + x6).toNatClampNeg (0 : Int64) := ⟨_, rfl⟩
    rw [← eL35] at hB
    have h := h L35 eL35
    obtain ⟨v36, ev36⟩ : ∃ z : Int32, z = x6 + (1 : Int32) := ⟨_, rfl⟩
    have h := h v36 ev36
    refine lv_iinc (v := v36) (lv' := [(6, .int v36), (0, .ref (a 44)), (1, .ref (a 37)), (2, .int x2), (3, .int x3), (4, .int x4), (5, .int x5)]) hx hb dX3_fillRow_36 hl (k := 6) rfl (by rw [ev36]; rfl) (by decide) rfl (fun ls hl => ?_)
    refine lv_goto (tgt := 18) hx hb dX3_fillRow_39 (by decide) ?_
    exact hK18 _ _ _ h H locs ls hB (lv_sub hl [1, 2, 3, 4, 5, 6, 0] rfl)
def zp_X3_fillRow_18  (P : zz_I → zz_L → Prop) (x2 : Int32) (x3 : Int32) (x4 : Int32) (x5 : Int32) (x6 : Int32) (I : zz_I) (L : zz_L) : Prop := ∃ (Inv : Int32 → zz_I → zz_L → Prop) (μ : Int32 → zz_I → zz_L → Nat), Inv x6 I L ∧ ∀ (y6 : Int32) (I8 : zz_I) (L8 : zz_L), Inv y6 I8 L8 → zp_X3_fillRow_18b  (fun z6 I7 L7 => Inv z6 I7 L7 ∧ μ z6 I7 L7 < μ y6 I8 L8) P x2 x3 x4 x5 y6 I8 L8
set_option maxHeartbeats 4000000 in
set_option maxRecDepth 100000 in
theorem zq_X3_fillRow_18 {p : Program} {l : Launch} {e : Env} {s : State} {m : MethodId} {args : Array Value} {below : List Frame} {meth : Method} {c : Code} {D : va_G} {ca : Nat → ClassId} {A : Nat → Prop} {a : Nat → Nat}  {P : zz_I → zz_L → Prop} {I : zz_I} {L : zz_L} {x2 : Int32} {x3 : Int32} {x4 : Int32} {x5 : Int32} {x6 : Int32} (X : zz_X p s m meth c cX3_fillRow RX3 none 11) (hA : ∀ q, s.heap.size ≤ q → A q)   (h : zp_X3_fillRow_18  P x2 x3 x4 x5 x6 I L) : zz_Go p l e ({ frames := 1, cells := 0, slots := 0, locals := 22 } : Room) s m args below meth c 0 0 (MQ below (zz_Qv D ca zz_dC A a P) args s 0 0 A) D ca zz_dC A 11 18 a [] [(0, .ref (a 44)), (1, .ref (a 37)), (2, .int x2), (3, .int x3), (4, .int x4), (5, .int x5), (6, .int x6)] I L := by
  unfold zp_X3_fillRow_18 at h
  obtain ⟨Inv, μ, hv0, hs⟩ := h
  have key : ∀ (n9 : Nat) (y6 : Int32) (I8 : zz_I) (L8 : zz_L), μ y6 I8 L8 < n9 → Inv y6 I8 L8 → zz_Go p l e ({ frames := 1, cells := 0, slots := 0, locals := 22 } : Room) s m args below meth c 0 0 (MQ below (zz_Qv D ca zz_dC A a P) args s 0 0 A) D ca zz_dC A 11 18 a [] [(0, .ref (a 44)), (1, .ref (a 37)), (2, .int x2), (3, .int x3), (4, .int x4), (5, .int x5), (6, .int y6)] I8 L8 := by
    intro n9
    induction n9 with
    | zero => intro y6 I8 L8 hn; exact absurd hn (Nat.not_lt_zero _)
    | succ n9 ih =>
      intro y6 I8 L8 hn hi
      exact zq_X3_fillRow_18b (K18 := (fun z6 I7 L7 => Inv z6 I7 L7 ∧ μ z6 I7 L7 < μ y6 I8 L8)) X hA   (fun z6 I7 L7 hz => ih z6 I7 L7 (Nat.lt_of_lt_of_le hz.2 (Nat.le_of_lt_succ hn)) hz.1) (hs y6 I8 L8 hi)
  exact key _ x6 I L (Nat.lt_succ_self _) hv0
def zp_X3_fillRow (x2 : Int32) (x3 : Int32) (P : zz_I → zz_L → Prop) (I : zz_I) (L : zz_L) : Prop := zp_X3_rowOf x2 x3 (fun r2 => vp_in x3 8 ∧ (∀ v13 : Int32, v13 = I 46 x3.toNatClampNeg → (zp_X3_fillRow_18 P x2 x3 r2 v13 (0 : Int32) I L))) I L
set_option maxHeartbeats 4000000 in
set_option maxRecDepth 100000 in
theorem zq_X3_fillRow {p : Program} {l : Launch} {e : Env} {s : State} {m : MethodId} {args : Array Value} {below : List Frame} {meth : Method} {c : Code} {D : va_G} {ca : Nat → ClassId} {A : Nat → Prop} {a : Nat → Nat}  {P : zz_I → zz_L → Prop} {I : zz_I} {L : zz_L} {x2 : Int32} {x3 : Int32} (X : zz_X p s m meth c cX3_fillRow RX3 none 11) (hA : ∀ q, s.heap.size ≤ q → A q)   (h : zp_X3_fillRow x2 x3 P I L) : zz_Go p l e ({ frames := 1, cells := 0, slots := 0, locals := 22 } : Room) s m args below meth c 0 0 (MQ below (zz_Qv D ca zz_dC A a P) args s 0 0 A) D ca zz_dC A 11 0 a [] [(0, .ref (a 44)), (1, .ref (a 37)), (2, .int x2), (3, .int x3)] I L := by
  obtain ⟨hx, hb, hml, hown, zw, hr, hlocks⟩ := id X
  intro H locs ls hB hl
  unfold zp_X3_fillRow at h
  refine lv_iload_n hx hb dX3_fillRow_0 rfl (lv_at hl 2 rfl) ?_
  refine lv_iload_n hx hb dX3_fillRow_1 rfl (lv_at hl 3 rfl) ?_
  refine zz_goip hB hA (zz_runS (As := [.int x2, .int x3]) (rest := []) hx hb hml hown zw hB zM_X3_51 (zc_X3_rowOf l D ca a I L H.size h) rfl hl.1 rfl (Nat.le_of_ble_eq_true rfl) rfl rfl ⟨Nat.le_of_ble_eq_true rfl, Nat.le_of_ble_eq_true rfl⟩ dX3_fillRow_2 ⟨Nat.le_of_ble_eq_true rfl, Nat.le_of_ble_eq_true rfl⟩) (fun r2 H locs h hB => ?_)
  refine lv_istore (lv' := [(4, .int r2), (0, .ref (a 44)), (1, .ref (a 37)), (2, .int x2), (3, .int x3)]) hx hb dX3_fillRow_5 hl (by decide) rfl (fun ls hl => ?_)
  refine lv_aload_n hx hb dX3_fillRow_7 rfl (lv_at hl 1 rfl) ?_
  refine zz_getr (k' := 46) hx hb hown zw hB zF_X3_15 zdC_44 rfl rfl dX3_fillRow_8 ?_
  refine lv_iload_n hx hb dX3_fillRow_11 rfl (lv_at hl 4 rfl) ?_
  obtain ⟨hi12, h⟩ := h
  refine zz_iald hx hb hB zdC_46 hi12 dX3_fillRow_12 ?_
  refine lv_topi (fun v13 ev13 => ?_)
  have h := h v13 ev13
  refine lv_istore (lv' := [(5, .int v13), (4, .int r2), (0, .ref (a 44)), (1, .ref (a 37)), (2, .int x2), (3, .int x3)]) hx hb dX3_fillRow_13 hl (by decide) rfl (fun ls hl => ?_)
  refine lv_iconst (v := (0 : Int32)) hx hb dX3_fillRow_15 (by decide) ?_
  refine lv_istore (lv' := [(6, .int (0 : Int32)), (5, .int v13), (4, .int r2), (0, .ref (a 44)), (1, .ref (a 37)), (2, .int x2), (3, .int x3)]) hx hb dX3_fillRow_16 hl (by decide) rfl (fun ls hl => ?_)
  exact zq_X3_fillRow_18 X hA  h H locs ls hB (lv_sub hl [3, 4, 5, 6, 2, 1, 0] rfl)
theorem zc_X3_fillRow (l : Launch) (D : va_G) (ca : Nat → ClassId) (a : Nat → Nat) (I : zz_I) (L : zz_L) (sz : Nat) {x2 : Int32} {x3 : Int32} {P : zz_I → zz_L → Prop}  (h : zp_X3_fillRow x2 x3 P I L) : Met l yX3_fillRow [.code yX3_fillRow cX3_fillRow 11 none] ({ frames := 1, cells := 0, slots := 0, locals := 22 } : Room) (zz_Pre D ca zz_dC [.ref (a 44), .ref (a 37), .int x2, .int x3] a I L sz) (zz_Qv D ca zz_dC (zz_A ca zz_dC a I L sz) a P) 0 0 (zz_A ca zz_dC a I L sz) :=
  zz_start (by decide) (Nat.le_of_ble_eq_true rfl) (fun p e s m below meth c X hsz hA => zq_X3_fillRow X hA  h)
def zp_X3_walk_106 (K21 : Int64 → Int32 → Int32 → Int32 → Int32 → zz_I → zz_L → Prop) (P : zz_I → zz_L → Prop) (x4 : Int64) (x6 : Int32) (x7 : Int32) (x9 : Int32) (x10 : Int32) (I : zz_I) (L : zz_L) : Prop := (0 ≤ x10 → vp_in x9 8 ∧ (∀ I120 : zz_I, I120 = zz_up I 47 x9.toNatClampNeg x10 → (∀ I126 : zz_I, I126 = zz_up I120 44 3 (x9 + (1 : Int32)) → (vp_in x10 8 ∧ (∀ v139 : Int32, v139 = x7 - (I126 46 x10.toNatClampNeg) → (vp_in x10 8 ∧ (∀ v148 : Int32, v148 = I126 40 x10.toNatClampNeg → (zp_X0_nextUnit x6 x10 (fun r155 => ∀ v160 : Int32, v160 = x9 + (1 : Int32) → (K21 x4 r155 v139 v148 v160 I126 L)) I126 L)))))))) ∧ (¬ 0 ≤ x10 → P I L)
set_option maxHeartbeats 4000000 in
set_option maxRecDepth 100000 in
theorem zq_X3_walk_106 {p : Program} {l : Launch} {e : Env} {s : State} {m : MethodId} {args : Array Value} {below : List Frame} {meth : Method} {c : Code} {D : va_G} {ca : Nat → ClassId} {A : Nat → Prop} {a : Nat → Nat} {K21 : Int64 → Int32 → Int32 → Int32 → Int32 → zz_I → zz_L → Prop} {P : zz_I → zz_L → Prop} {I : zz_I} {L : zz_L} {x4 : Int64} {x6 : Int32} {x7 : Int32} {x9 : Int32} {x10 : Int32} (X : zz_X p s m meth c cX3_walk RX3 none 14) (hA : ∀ q, s.heap.size ≤ q → A q)  (hK21 : ∀ (y4 : Int64) (y6 : Int32) (y7 : Int32) (y8 : Int32) (y9 : Int32) (I8 : zz_I) (L8 : zz_L), K21 y4 y6 y7 y8 y9 I8 L8 → zz_Go p l e ({ frames := 2, cells := 0, slots := 0, locals := 48 } : Room) s m args below meth c 0 0 (MQ below (zz_Qv D ca zz_dC A a P) args s 0 0 A) D ca zz_dC A 14 21 a [] [(0, .ref (a 44)), (1, .ref (a 37)), (4, .long y4), (6, .int y6), (7, .int y7), (8, .int y8), (9, .int y9)] I8 L8) (h : zp_X3_walk_106 K21 P x4 x6 x7 x9 x10 I L) : zz_Go p l e ({ frames := 2, cells := 0, slots := 0, locals := 48 } : Room) s m args below meth c 0 0 (MQ below (zz_Qv D ca zz_dC A a P) args s 0 0 A) D ca zz_dC A 14 106 a [] [(0, .ref (a 44)), (1, .ref (a 37)), (4, .long x4), (6, .int x6), (7, .int x7), (9, .int x9), (10, .int x10)] I L := by
  obtain ⟨hx, hb, hml, hown, zw, hr, hlocks⟩ := id X
  intro H locs ls hB hl
  unfold zp_X3_walk_106 at h
  refine lv_iload hx hb dX3_walk_106 (lv_at hl 6 rfl) ?_
  refine lv_if_ge (tgt := 112) hx hb dX3_walk_108 (by decide) (fun c108 => ?_) (fun c108 => ?_)
  · have h := h.1 c108
    refine lv_aload_n hx hb dX3_walk_112 rfl (lv_at hl 0 rfl) ?_
    refine zz_getr (k' := 47) hx hb hown zw hB zF_X3_19 zdC_44 rfl rfl dX3_walk_113 ?_
    refine lv_iload hx hb dX3_walk_116 (lv_at hl 5 rfl) ?_
    refine lv_iload hx hb dX3_walk_118 (lv_at hl 6 rfl) ?_
    obtain ⟨hi120, h⟩ := h
    refine zz_iast hx hb hB zdC_47 hi120 dX3_walk_120 (fun H locs hB => ?_)
    obtain ⟨I120, eI120⟩ : ∃ z : zz_I, z = zz_up I 47 x9.toNatClampNeg x10 := ⟨_, rfl⟩
    rw [← eI120] at hB
    have h := h I120 eI120
    refine lv_aload_n hx hb dX3_walk_121 rfl (lv_at hl 0 rfl) ?_
    refine lv_iload hx hb dX3_walk_122 (lv_at hl 5 rfl) ?_
    refine lv_iconst (v := (1 : Int32)) hx hb dX3_walk_124 (by decide) ?_
    refine lv_iadd hx hb dX3_walk_125 ?_
    refine zz_puti hx hb hown zw hB zP_X3_22 zdC_44 rfl dX3_walk_126 (fun H locs hB => ?_)
    obtain ⟨I126, eI126⟩ : ∃ z : zz_I, z = zz_up I120 44 3 (x9 + (1 : Int32)) := ⟨_, rfl⟩
    rw [← eI126] at hB
    have h := h I126 eI126
    refine lv_iload hx hb dX3_walk_129 (lv_at hl 4 rfl) ?_
    refine lv_aload_n hx hb dX3_walk_131 rfl (lv_at hl 0 rfl) ?_
    refine zz_getr (k' := 46) hx hb hown zw hB zF_X3_15 zdC_44 rfl rfl dX3_walk_132 ?_
    refine lv_iload hx hb dX3_walk_135 (lv_at hl 6 rfl) ?_
    obtain ⟨hi137, h⟩ := h
    refine zz_iald hx hb hB zdC_46 hi137 dX3_walk_137 ?_
    refine lv_isub hx hb dX3_walk_138 ?_
    refine lv_topi (fun v139 ev139 => ?_)
    have h := h v139 ev139
    refine lv_istore (lv' := [(7, .int v139), (0, .ref (a 44)), (1, .ref (a 37)), (4, .long x4), (6, .int x6), (9, .int x9), (10, .int x10)]) hx hb dX3_walk_139 hl (by decide) rfl (fun ls hl => ?_)
    refine lv_aload_n hx hb dX3_walk_141 rfl (lv_at hl 2 rfl) ?_
    refine zz_getr (k' := 40) hx hb hown zw hB zF_X3_67 zdC_37 rfl rfl dX3_walk_142 ?_
    refine lv_iload hx hb dX3_walk_145 (lv_at hl 6 rfl) ?_
    obtain ⟨hi147, h⟩ := h
    refine zz_iald hx hb hB zdC_40 hi147 dX3_walk_147 ?_
    refine lv_topi (fun v148 ev148 => ?_)
    have h := h v148 ev148
    refine lv_istore (lv' := [(8, .int v148), (7, .int v139), (0, .ref (a 44)), (1, .ref (a 37)), (4, .long x4), (6, .int x6), (9, .int x9), (10, .int x10)]) hx hb dX3_walk_148 hl (by decide) rfl (fun ls hl => ?_)
    refine lv_aload_n hx hb dX3_walk_150 rfl (lv_at hl 3 rfl) ?_
    refine lv_iload hx hb dX3_walk_151 (lv_at hl 5 rfl) ?_
    refine lv_iload hx hb dX3_walk_153 (lv_at hl 7 rfl) ?_
    refine zz_goip hB hA (zz_runV (As := [.int x6, .int x10]) (rest := []) hx hb hml hown zw hB zM_X3_55 (zc_X0_nextUnit l D ca a I126 L H.size h) zdC_37 rfl rfl hl.1 rfl (Nat.le_of_ble_eq_true rfl) rfl rfl ⟨Nat.le_of_ble_eq_true rfl, Nat.le_of_ble_eq_true rfl⟩ dX3_walk_155 ⟨Nat.le_of_ble_eq_true rfl, Nat.le_of_ble_eq_true rfl⟩) (fun r155 H locs h hB => ?_)
    refine lv_istore (lv' := [(6, .int r155), (8, .int v148), (7, .int v139), (0, .ref (a 44)), (1, .ref (a 37)), (4, .long x4), (9, .int x9), (10, .int x10)]) hx hb dX3_walk_158 hl (by decide) rfl (fun ls hl => ?_)
    obtain ⟨v160, ev160⟩ : ∃ z : Int32, z = x9 + (1 : Int32) := ⟨_, rfl⟩
    have h := h v160 ev160
    refine lv_iinc (v := v160) (lv' := [(9, .int v160), (6, .int r155), (8, .int v148), (7, .int v139), (0, .ref (a 44)), (1, .ref (a 37)), (4, .long x4), (10, .int x10)]) hx hb dX3_walk_160 hl (k := 6) rfl (by rw [ev160]; rfl) (by decide) rfl (fun ls hl => ?_)
    refine lv_goto (tgt := 21) hx hb dX3_walk_163 (by decide) ?_
    exact hK21 _ _ _ _ _ _ _ h H locs ls hB (lv_sub hl [4, 5, 6, 1, 3, 2, 0] rfl)
  · have h := h.2 c108
    exact zz_vret hx hb hr hlocks hB h dX3_walk_111
def zp_X3_walk_49b (K21 : Int64 → Int32 → Int32 → Int32 → Int32 → zz_I → zz_L → Prop) (K49 : Int64 → Int32 → Int32 → Prop) (P : zz_I → zz_L → Prop) (x4 : Int64) (x6 : Int32) (x7 : Int32) (x8 : Int32) (x9 : Int32) (x10 : Int32) (x11 : Int32) (I : zz_I) (L : zz_L) : Prop := ((I 37 7) ≤ x11 → zp_X3_walk_106 K21 P x4 x6 x7 x9 x10 I L) ∧ (¬ (I 37 7) ≤ x11 → (0 ≤ x10 → zp_X3_walk_106 K21 P x4 x6 x7 x9 x10 I L) ∧ (¬ 0 ≤ x10 → zp_X3_endsOf x6 x11 x8 x7 (fun r73 => (r73 ≤ x4 → ∀ v98 : Int64, v98 = x4 - r73 → (∀ v100 : Int32, v100 = x11 + (1 : Int32) → (K49 v98 x10 v100))) ∧ (¬ r73 ≤ x4 → ∀ v100 : Int32, v100 = x11 + (1 : Int32) → (K49 x4 x11 v100))) I L))
set_option maxHeartbeats 4000000 in
set_option maxRecDepth 100000 in
theorem zq_X3_walk_49b {p : Program} {l : Launch} {e : Env} {s : State} {m : MethodId} {args : Array Value} {below : List Frame} {meth : Method} {c : Code} {D : va_G} {ca : Nat → ClassId} {A : Nat → Prop} {a : Nat → Nat} {K21 : Int64 → Int32 → Int32 → Int32 → Int32 → zz_I → zz_L → Prop} {K49 : Int64 → Int32 → Int32 → Prop} {P : zz_I → zz_L → Prop} {I : zz_I} {L : zz_L} {x4 : Int64} {x6 : Int32} {x7 : Int32} {x8 : Int32} {x9 : Int32} {x10 : Int32} {x11 : Int32} (X : zz_X p s m meth c cX3_walk RX3 none 14) (hA : ∀ q, s.heap.size ≤ q → A q)  (hK21 : ∀ (y4 : Int64) (y6 : Int32) (y7 : Int32) (y8 : Int32) (y9 : Int32) (I8 : zz_I) (L8 : zz_L), K21 y4 y6 y7 y8 y9 I8 L8 → zz_Go p l e ({ frames := 2, cells := 0, slots := 0, locals := 48 } : Room) s m args below meth c 0 0 (MQ below (zz_Qv D ca zz_dC A a P) args s 0 0 A) D ca zz_dC A 14 21 a [] [(0, .ref (a 44)), (1, .ref (a 37)), (4, .long y4), (6, .int y6), (7, .int y7), (8, .int y8), (9, .int y9)] I8 L8) (hK49 : ∀ (y4 : Int64) (y10 : Int32) (y11 : Int32), K49 y4 y10 y11 → zz_Go p l e ({ frames := 2, cells := 0, slots := 0, locals := 48 } : Room) s m args below meth c 0 0 (MQ below (zz_Qv D ca zz_dC A a P) args s 0 0 A) D ca zz_dC A 14 49 a [] [(0, .ref (a 44)), (1, .ref (a 37)), (4, .long y4), (6, .int x6), (7, .int x7), (8, .int x8), (9, .int x9), (10, .int y10), (11, .int y11)] I L) (h : zp_X3_walk_49b K21 K49 P x4 x6 x7 x8 x9 x10 x11 I L) : zz_Go p l e ({ frames := 2, cells := 0, slots := 0, locals := 48 } : Room) s m args below meth c 0 0 (MQ below (zz_Qv D ca zz_dC A a P) args s 0 0 A) D ca zz_dC A 14 49 a [] [(0, .ref (a 44)), (1, .ref (a 37)), (4, .long x4), (6, .int x6), (7, .int x7), (8, .int x8), (9, .int x9), (10, .int x10), (11, .int x11)] I L := by
  obtain ⟨hx, hb, hml, hown, zw, hr, hlocks⟩ := id X
  intro H locs ls hB hl
  unfold zp_X3_walk_49b at h
  refine lv_iload hx hb dX3_walk_49 (lv_at hl 8 rfl) ?_
  refine lv_aload_n hx hb dX3_walk_51 rfl (lv_at hl 1 rfl) ?_
  refine zz_geti hx hb hown zw hB zF_X3_40 zdC_37 rfl dX3_walk_52 ?_
  refine lv_icmp_ge (tgt := 106) hx hb dX3_walk_55 (by decide) (fun c55 => ?_) (fun c55 => ?_)
  · have h := h.1 c55
    exact zq_X3_walk_106 X hA hK21 h H locs ls hB (lv_sub hl [0, 1, 2, 3, 4, 6, 7] rfl)
  · have h := h.2 c55
    refine lv_iload hx hb dX3_walk_58 (lv_at hl 7 rfl) ?_
    refine lv_if_ge (tgt := 106) hx hb dX3_walk_60 (by decide) (fun c60 => ?_) (fun c60 => ?_)
    · have h := h.1 c60
      exact zq_X3_walk_106 X hA hK21 h H locs ls hB (lv_sub hl [0, 1, 2, 3, 4, 6, 7] rfl)
    · have h := h.2 c60
      refine lv_aload_n hx hb dX3_walk_63 rfl (lv_at hl 0 rfl) ?_
      refine lv_aload_n hx hb dX3_walk_64 rfl (lv_at hl 1 rfl) ?_
      refine lv_iload hx hb dX3_walk_65 (lv_at hl 3 rfl) ?_
      refine lv_iload hx hb dX3_walk_67 (lv_at hl 8 rfl) ?_
      refine lv_iload hx hb dX3_walk_69 (lv_at hl 5 rfl) ?_
      refine lv_iload hx hb dX3_walk_71 (lv_at hl 4 rfl) ?_
      refine zz_golp hB hA (zz_runV (As := [.ref (a 37), .int x6, .int x11, .int x8, .int x7]) (rest := []) hx hb hml hown zw hB zM_X3_81 (zc_X3_endsOf l D ca a I L H.size h) zdC_44 rfl rfl hl.1 rfl (Nat.le_of_ble_eq_true rfl) rfl rfl ⟨Nat.le_of_ble_eq_true rfl, Nat.le_of_ble_eq_true rfl⟩ dX3_walk_73 ⟨Nat.le_of_ble_eq_true rfl, Nat.le_of_ble_eq_true rfl⟩) (fun r73 H locs h hB => ?_)
      refine lv_lstore (lv' := [(12, .long r73), (0, .ref (a 44)), (1, .ref (a 37)), (4, .long x4), (6, .int x6), (7, .int x7), (8, .int x8), (9, .int x9), (10, .int x10), (11, .int x11)]) hx hb dX3_walk_76 hl (by decide) rfl (fun ls hl => ?_)
      refine lv_lload hx hb dX3_walk_78 (lv_at hl 3 rfl) ?_
      refine lv_lload hx hb dX3_walk_80 (lv_at hl 0 rfl) ?_
      refine zz_l_ge (tgt := 93) hx hb dX3_walk_82 dX3_walk_83 (by decide) (fun c82 => ?_) (fun c82 => ?_)
      · have h := h.1 c82
        refine lv_lload hx hb dX3_walk_93 (lv_at hl 3 rfl) ?_
        refine lv_lload hx hb dX3_walk_95 (lv_at hl 0 rfl) ?_
        refine lv_lsub hx hb dX3_walk_97 ?_
        refine lv_topl (fun v98 ev98 => ?_)
        have h := h v98 ev98
        refine lv_lstore (lv' := [(4, .long v98), (12, .long r73), (0, .ref (a 44)), (1, .ref (a 37)), (6, .int x6), (7, .int x7), (8, .int x8), (9, .int x9), (10, .int x10), (11, .int x11)]) hx hb dX3_walk_98 hl (by decide) rfl (fun ls hl => ?_)
        obtain ⟨v100, ev100⟩ : ∃ z : Int32, z = x11 + (1 : Int32) := ⟨_, rfl⟩
        have h := h v100 ev100
        refine lv_iinc (v := v100) (lv' := [(11, .int v100), (4, .long v98), (12, .long r73), (0, .ref (a 44)), (1, .ref (a 37)), (6, .int x6), (7, .int x7), (8, .int x8), (9, .int x9), (10, .int x10)]) hx hb dX3_walk_100 hl (k := 9) rfl (by rw [ev100]; rfl) (by decide) rfl (fun ls hl => ?_)
        refine lv_goto (tgt := 49) hx hb dX3_walk_103 (by decide) ?_
        exact hK49 _ _ _ h H locs ls hB (lv_sub hl [3, 4, 1, 5, 6, 7, 8, 9, 0] rfl)
      · have h := h.2 c82
        refine lv_iload hx hb dX3_walk_86 (lv_at hl 9 rfl) ?_
        refine lv_istore (lv' := [(10, .int x11), (12, .long r73), (0, .ref (a 44)), (1, .ref (a 37)), (4, .long x4), (6, .int x6), (7, .int x7), (8, .int x8), (9, .int x9), (11, .int x11)]) hx hb dX3_walk_88 hl (by decide) rfl (fun ls hl => ?_)
        refine lv_goto (tgt := 100) hx hb dX3_walk_90 (by decide) ?_
        obtain ⟨v100, ev100⟩ : ∃ z : Int32, z = x11 + (1 : Int32) := ⟨_, rfl⟩
        have h := h v100 ev100
        refine lv_iinc (v := v100) (lv' := [(11, .int v100), (10, .int x11), (12, .long r73), (0, .ref (a 44)), (1, .ref (a 37)), (4, .long x4), (6, .int x6), (7, .int x7), (8, .int x8), (9, .int x9)]) hx hb dX3_walk_100 hl (k := 9) rfl (by rw [ev100]; rfl) (by decide) rfl (fun ls hl => ?_)
        refine lv_goto (tgt := 49) hx hb dX3_walk_103 (by decide) ?_
        exact hK49 _ _ _ h H locs ls hB (lv_sub hl [3, 4, 5, 6, 7, 8, 9, 1, 0] rfl)
def zp_X3_walk_49 (K21 : Int64 → Int32 → Int32 → Int32 → Int32 → zz_I → zz_L → Prop) (P : zz_I → zz_L → Prop) (x4 : Int64) (x6 : Int32) (x7 : Int32) (x8 : Int32) (x9 : Int32) (x10 : Int32) (x11 : Int32) (I : zz_I) (L : zz_L) : Prop := ∃ (Inv : Int64 → Int32 → Int32 → Prop) (μ : Int64 → Int32 → Int32 → Nat), Inv x4 x10 x11 ∧ ∀ (y4 : Int64) (y10 : Int32) (y11 : Int32), Inv y4 y10 y11 → zp_X3_walk_49b K21 (fun z4 z10 z11 => Inv z4 z10 z11 ∧ μ z4 z10 z11 < μ y4 y10 y11) P y4 x6 x7 x8 x9 y10 y11 I L
set_option maxHeartbeats 4000000 in
set_option maxRecDepth 100000 in
theorem zq_X3_walk_49 {p : Program} {l : Launch} {e : Env} {s : State} {m : MethodId} {args : Array Value} {below : List Frame} {meth : Method} {c : Code} {D : va_G} {ca : Nat → ClassId} {A : Nat → Prop} {a : Nat → Nat} {K21 : Int64 → Int32 → Int32 → Int32 → Int32 → zz_I → zz_L → Prop} {P : zz_I → zz_L → Prop} {I : zz_I} {L : zz_L} {x4 : Int64} {x6 : Int32} {x7 : Int32} {x8 : Int32} {x9 : Int32} {x10 : Int32} {x11 : Int32} (X : zz_X p s m meth c cX3_walk RX3 none 14) (hA : ∀ q, s.heap.size ≤ q → A q)  (hK21 : ∀ (y4 : Int64) (y6 : Int32) (y7 : Int32) (y8 : Int32) (y9 : Int32) (I8 : zz_I) (L8 : zz_L), K21 y4 y6 y7 y8 y9 I8 L8 → zz_Go p l e ({ frames := 2, cells := 0, slots := 0, locals := 48 } : Room) s m args below meth c 0 0 (MQ below (zz_Qv D ca zz_dC A a P) args s 0 0 A) D ca zz_dC A 14 21 a [] [(0, .ref (a 44)), (1, .ref (a 37)), (4, .long y4), (6, .int y6), (7, .int y7), (8, .int y8), (9, .int y9)] I8 L8) (h : zp_X3_walk_49 K21 P x4 x6 x7 x8 x9 x10 x11 I L) : zz_Go p l e ({ frames := 2, cells := 0, slots := 0, locals := 48 } : Room) s m args below meth c 0 0 (MQ below (zz_Qv D ca zz_dC A a P) args s 0 0 A) D ca zz_dC A 14 49 a [] [(0, .ref (a 44)), (1, .ref (a 37)), (4, .long x4), (6, .int x6), (7, .int x7), (8, .int x8), (9, .int x9), (10, .int x10), (11, .int x11)] I L := by
  unfold zp_X3_walk_49 at h
  obtain ⟨Inv, μ, hv0, hs⟩ := h
  have key : ∀ (n9 : Nat) (y4 : Int64) (y10 : Int32) (y11 : Int32), μ y4 y10 y11 < n9 → Inv y4 y10 y11 → zz_Go p l e ({ frames := 2, cells := 0, slots := 0, locals := 48 } : Room) s m args below meth c 0 0 (MQ below (zz_Qv D ca zz_dC A a P) args s 0 0 A) D ca zz_dC A 14 49 a [] [(0, .ref (a 44)), (1, .ref (a 37)), (4, .long y4), (6, .int x6), (7, .int x7), (8, .int x8), (9, .int x9), (10, .int y10), (11, .int y11)] I L := by
    intro n9
    induction n9 with
    | zero => intro y4 y10 y11 hn; exact absurd hn (Nat.not_lt_zero _)
    | succ n9 ih =>
      intro y4 y10 y11 hn hi
      exact zq_X3_walk_49b (K49 := (fun z4 z10 z11 => Inv z4 z10 z11 ∧ μ z4 z10 z11 < μ y4 y10 y11)) X hA  hK21 (fun z4 z10 z11 hz => ih z4 z10 z11 (Nat.lt_of_lt_of_le hz.2 (Nat.le_of_lt_succ hn)) hz.1) (hs y4 y10 y11 hi)
  exact key _ x4 x10 x11 (Nat.lt_succ_self _) hv0
def zp_X3_walk_21b (K21 : Int64 → Int32 → Int32 → Int32 → Int32 → zz_I → zz_L → Prop) (P : zz_I → zz_L → Prop) (x4 : Int64) (x6 : Int32) (x7 : Int32) (x8 : Int32) (x9 : Int32) (I : zz_I) (L : zz_L) : Prop := ((8 : Int32) ≤ x9 → P I L) ∧ (¬ (8 : Int32) ≤ x9 → ((I 37 6) ≤ x6 → P I L) ∧ (¬ (I 37 6) ≤ x6 → (x7 ≤ 0 → P I L) ∧ (¬ x7 ≤ 0 → zp_X3_walk_49 K21 P x4 x6 x7 x8 x9 (-9 : Int32) (0 : Int32) I L)))
set_option maxHeartbeats 4000000 in
set_option maxRecDepth 100000 in
theorem zq_X3_walk_21b {p : Program} {l : Launch} {e : Env} {s : State} {m : MethodId} {args : Array Value} {below : List Frame} {meth : Method} {c : Code} {D : va_G} {ca : Nat → ClassId} {A : Nat → Prop} {a : Nat → Nat} {K21 : Int64 → Int32 → Int32 → Int32 → Int32 → zz_I → zz_L → Prop} {P : zz_I → zz_L → Prop} {I : zz_I} {L : zz_L} {x4 : Int64} {x6 : Int32} {x7 : Int32} {x8 : Int32} {x9 : Int32} (X : zz_X p s m meth c cX3_walk RX3 none 14) (hA : ∀ q, s.heap.size ≤ q → A q)  (hK21 : ∀ (y4 : Int64) (y6 : Int32) (y7 : Int32) (y8 : Int32) (y9 : Int32) (I8 : zz_I) (L8 : zz_L), K21 y4 y6 y7 y8 y9 I8 L8 → zz_Go p l e ({ frames := 2, cells := 0, slots := 0, locals := 48 } : Room) s m args below meth c 0 0 (MQ below (zz_Qv D ca zz_dC A a P) args s 0 0 A) D ca zz_dC A 14 21 a [] [(0, .ref (a 44)), (1, .ref (a 37)), (4, .long y4), (6, .int y6), (7, .int y7), (8, .int y8), (9, .int y9)] I8 L8) (h : zp_X3_walk_21b K21 P x4 x6 x7 x8 x9 I L) : zz_Go p l e ({ frames := 2, cells := 0, slots := 0, locals := 48 } : Room) s m args below meth c 0 0 (MQ below (zz_Qv D ca zz_dC A a P) args s 0 0 A) D ca zz_dC A 14 21 a [] [(0, .ref (a 44)), (1, .ref (a 37)), (4, .long x4), (6, .int x6), (7, .int x7), (8, .int x8), (9, .int x9)] I L := by
  obtain ⟨hx, hb, hml, hown, zw, hr, hlocks⟩ := id X
  intro H locs ls hB hl
  unfold zp_X3_walk_21b at h
  refine lv_iload hx hb dX3_walk_21 (lv_at hl 6 rfl) ?_
  refine lv_bipush (v := (8 : Int32)) hx hb dX3_walk_23 (by decide) ?_
  refine lv_icmp_ge (tgt := 166) hx hb dX3_walk_25 (by decide) (fun c25 => ?_) (fun c25 => ?_)
  · have h := h.1 c25
    exact zz_vret hx hb hr hlocks hB h dX3_walk_166
  · have h := h.2 c25
    refine lv_iload hx hb dX3_walk_28 (lv_at hl 3 rfl) ?_
    refine lv_aload_n hx hb dX3_walk_30 rfl (lv_at hl 1 rfl) ?_
    refine zz_geti hx hb hown zw hB zF_X3_35 zdC_37 rfl dX3_walk_31 ?_
    refine lv_icmp_ge (tgt := 166) hx hb dX3_walk_34 (by decide) (fun c34 => ?_) (fun c34 => ?_)
    · have h := h.1 c34
      exact zz_vret hx hb hr hlocks hB h dX3_walk_166
    · have h := h.2 c34
      refine lv_iload hx hb dX3_walk_37 (lv_at hl 4 rfl) ?_
      refine lv_if_le (tgt := 166) hx hb dX3_walk_39 (by decide) (fun c39 => ?_) (fun c39 => ?_)
      · have h := h.1 c39
        exact zz_vret hx hb hr hlocks hB h dX3_walk_166
      · have h := h.2 c39
        refine lv_bipush (v := (-9 : Int32)) hx hb dX3_walk_42 (by decide) ?_
        refine lv_istore (lv' := [(10, .int (-9 : Int32)), (0, .ref (a 44)), (1, .ref (a 37)), (4, .long x4), (6, .int x6), (7, .int x7), (8, .int x8), (9, .int x9)]) hx hb dX3_walk_44 hl (by decide) rfl (fun ls hl => ?_)
        refine lv_iconst (v := (0 : Int32)) hx hb dX3_walk_46 (by decide) ?_
        refine lv_istore (lv' := [(11, .int (0 : Int32)), (10, .int (-9 : Int32)), (0, .ref (a 44)), (1, .ref (a 37)), (4, .long x4), (6, .int x6), (7, .int x7), (8, .int x8), (9, .int x9)]) hx hb dX3_walk_47 hl (by decide) rfl (fun ls hl => ?_)
        exact zq_X3_walk_49 X hA hK21 h H locs ls hB (lv_sub hl [2, 3, 4, 5, 6, 7, 8, 1, 0] rfl)
def zp_X3_walk_21  (P : zz_I → zz_L → Prop) (x4 : Int64) (x6 : Int32) (x7 : Int32) (x8 : Int32) (x9 : Int32) (I : zz_I) (L : zz_L) : Prop := ∃ (Inv : Int64 → Int32 → Int32 → Int32 → Int32 → zz_I → zz_L → Prop) (μ : Int64 → Int32 → Int32 → Int32 → Int32 → zz_I → zz_L → Nat), Inv x4 x6 x7 x8 x9 I L ∧ ∀ (y4 : Int64) (y6 : Int32) (y7 : Int32) (y8 : Int32) (y9 : Int32) (I8 : zz_I) (L8 : zz_L), Inv y4 y6 y7 y8 y9 I8 L8 → zp_X3_walk_21b  (fun z4 z6 z7 z8 z9 I7 L7 => Inv z4 z6 z7 z8 z9 I7 L7 ∧ μ z4 z6 z7 z8 z9 I7 L7 < μ y4 y6 y7 y8 y9 I8 L8) P y4 y6 y7 y8 y9 I8 L8
set_option maxHeartbeats 4000000 in
set_option maxRecDepth 100000 in
theorem zq_X3_walk_21 {p : Program} {l : Launch} {e : Env} {s : State} {m : MethodId} {args : Array Value} {below : List Frame} {meth : Method} {c : Code} {D : va_G} {ca : Nat → ClassId} {A : Nat → Prop} {a : Nat → Nat}  {P : zz_I → zz_L → Prop} {I : zz_I} {L : zz_L} {x4 : Int64} {x6 : Int32} {x7 : Int32} {x8 : Int32} {x9 : Int32} (X : zz_X p s m meth c cX3_walk RX3 none 14) (hA : ∀ q, s.heap.size ≤ q → A q)   (h : zp_X3_walk_21  P x4 x6 x7 x8 x9 I L) : zz_Go p l e ({ frames := 2, cells := 0, slots := 0, locals := 48 } : Room) s m args below meth c 0 0 (MQ below (zz_Qv D ca zz_dC A a P) args s 0 0 A) D ca zz_dC A 14 21 a [] [(0, .ref (a 44)), (1, .ref (a 37)), (4, .long x4), (6, .int x6), (7, .int x7), (8, .int x8), (9, .int x9)] I L := by
  unfold zp_X3_walk_21 at h
  obtain ⟨Inv, μ, hv0, hs⟩ := h
  have key : ∀ (n9 : Nat) (y4 : Int64) (y6 : Int32) (y7 : Int32) (y8 : Int32) (y9 : Int32) (I8 : zz_I) (L8 : zz_L), μ y4 y6 y7 y8 y9 I8 L8 < n9 → Inv y4 y6 y7 y8 y9 I8 L8 → zz_Go p l e ({ frames := 2, cells := 0, slots := 0, locals := 48 } : Room) s m args below meth c 0 0 (MQ below (zz_Qv D ca zz_dC A a P) args s 0 0 A) D ca zz_dC A 14 21 a [] [(0, .ref (a 44)), (1, .ref (a 37)), (4, .long y4), (6, .int y6), (7, .int y7), (8, .int y8), (9, .int y9)] I8 L8 := by
    intro n9
    induction n9 with
    | zero => intro y4 y6 y7 y8 y9 I8 L8 hn; exact absurd hn (Nat.not_lt_zero _)
    | succ n9 ih =>
      intro y4 y6 y7 y8 y9 I8 L8 hn hi
      exact zq_X3_walk_21b (K21 := (fun z4 z6 z7 z8 z9 I7 L7 => Inv z4 z6 z7 z8 z9 I7 L7 ∧ μ z4 z6 z7 z8 z9 I7 L7 < μ y4 y6 y7 y8 y9 I8 L8)) X hA   (fun z4 z6 z7 z8 z9 I7 L7 hz => ih z4 z6 z7 z8 z9 I7 L7 (Nat.lt_of_lt_of_le hz.2 (Nat.le_of_lt_succ hn)) hz.1) (hs y4 y6 y7 y8 y9 I8 L8 hi)
  exact key _ x4 x6 x7 x8 x9 I L (Nat.lt_succ_self _) hv0
def zp_X3_walk (x2 : Int64) (P : zz_I → zz_L → Prop) (I : zz_I) (L : zz_L) : Prop := ∀ v10 : Int32, v10 = I 44 4 → (∀ v16 : Int32, v16 = I 37 8 → (zp_X3_walk_21 P x2 (0 : Int32) v10 v16 (0 : Int32) I L))
set_option maxHeartbeats 4000000 in
set_option maxRecDepth 100000 in
theorem zq_X3_walk {p : Program} {l : Launch} {e : Env} {s : State} {m : MethodId} {args : Array Value} {below : List Frame} {meth : Method} {c : Code} {D : va_G} {ca : Nat → ClassId} {A : Nat → Prop} {a : Nat → Nat}  {P : zz_I → zz_L → Prop} {I : zz_I} {L : zz_L} {x2 : Int64} (X : zz_X p s m meth c cX3_walk RX3 none 14) (hA : ∀ q, s.heap.size ≤ q → A q)   (h : zp_X3_walk x2 P I L) : zz_Go p l e ({ frames := 2, cells := 0, slots := 0, locals := 48 } : Room) s m args below meth c 0 0 (MQ below (zz_Qv D ca zz_dC A a P) args s 0 0 A) D ca zz_dC A 14 0 a [] [(0, .ref (a 44)), (1, .ref (a 37)), (2, .long x2)] I L := by
  obtain ⟨hx, hb, hml, hown, zw, hr, hlocks⟩ := id X
  intro H locs ls hB hl
  unfold zp_X3_walk at h
  refine lv_lload_n hx hb dX3_walk_0 rfl (lv_at hl 2 rfl) ?_
  refine lv_lstore (lv' := [(4, .long x2), (0, .ref (a 44)), (1, .ref (a 37)), (2, .long x2)]) hx hb dX3_walk_1 hl (by decide) rfl (fun ls hl => ?_)
  refine lv_iconst (v := (0 : Int32)) hx hb dX3_walk_3 (by decide) ?_
  refine lv_istore (lv' := [(6, .int (0 : Int32)), (4, .long x2), (0, .ref (a 44)), (1, .ref (a 37)), (2, .long x2)]) hx hb dX3_walk_4 hl (by decide) rfl (fun ls hl => ?_)
  refine lv_aload_n hx hb dX3_walk_6 rfl (lv_at hl 2 rfl) ?_
  refine zz_geti hx hb hown zw hB zF_X3_26 zdC_44 rfl dX3_walk_7 ?_
  refine lv_topi (fun v10 ev10 => ?_)
  have h := h v10 ev10
  refine lv_istore (lv' := [(7, .int v10), (6, .int (0 : Int32)), (4, .long x2), (0, .ref (a 44)), (1, .ref (a 37)), (2, .long x2)]) hx hb dX3_walk_10 hl (by decide) rfl (fun ls hl => ?_)
  refine lv_aload_n hx hb dX3_walk_12 rfl (lv_at hl 4 rfl) ?_
  refine zz_geti hx hb hown zw hB zF_X3_78 zdC_37 rfl dX3_walk_13 ?_
  refine lv_topi (fun v16 ev16 => ?_)
  have h := h v16 ev16
  refine lv_istore (lv' := [(8, .int v16), (7, .int v10), (6, .int (0 : Int32)), (4, .long x2), (0, .ref (a 44)), (1, .ref (a 37)), (2, .long x2)]) hx hb dX3_walk_16 hl (by decide) rfl (fun ls hl => ?_)
  refine lv_iconst (v := (0 : Int32)) hx hb dX3_walk_18 (by decide) ?_
  refine lv_istore (lv' := [(9, .int (0 : Int32)), (8, .int v16), (7, .int v10), (6, .int (0 : Int32)), (4, .long x2), (0, .ref (a 44)), (1, .ref (a 37)), (2, .long x2)]) hx hb dX3_walk_19 hl (by decide) rfl (fun ls hl => ?_)
  exact zq_X3_walk_21 X hA  h H locs ls hB (lv_sub hl [5, 6, 4, 3, 2, 1, 0] rfl)
theorem zc_X3_walk (l : Launch) (D : va_G) (ca : Nat → ClassId) (a : Nat → Nat) (I : zz_I) (L : zz_L) (sz : Nat) {x2 : Int64} {P : zz_I → zz_L → Prop}  (h : zp_X3_walk x2 P I L) : Met l yX3_walk [.code yX3_walk cX3_walk 14 none] ({ frames := 2, cells := 0, slots := 0, locals := 48 } : Room) (zz_Pre D ca zz_dC [.ref (a 44), .ref (a 37), .long x2] a I L sz) (zz_Qv D ca zz_dC (zz_A ca zz_dC a I L sz) a P) 0 0 (zz_A ca zz_dC a I L sz) :=
  zz_start (by decide) (Nat.le_of_ble_eq_true rfl) (fun p e s m below meth c X hsz hA => zq_X3_walk X hA  h)
def zp_X3_find_68  (P : zz_I → zz_L → Prop) (x4 : Int64) (I : zz_I) (L : zz_L) : Prop := zp_X3_walk x4 (fun I72 L72 => P I72 L72) I L
set_option maxHeartbeats 4000000 in
set_option maxRecDepth 100000 in
theorem zq_X3_find_68 {p : Program} {l : Launch} {e : Env} {s : State} {m : MethodId} {args : Array Value} {below : List Frame} {meth : Method} {c : Code} {D : va_G} {ca : Nat → ClassId} {A : Nat → Prop} {a : Nat → Nat}  {P : zz_I → zz_L → Prop} {I : zz_I} {L : zz_L} {x4 : Int64} (X : zz_X p s m meth c cX3_find RX3 none 9) (hA : ∀ q, s.heap.size ≤ q → A q)   (h : zp_X3_find_68  P x4 I L) : zz_Go p l e ({ frames := 3, cells := 0, slots := 0, locals := 81 } : Room) s m args below meth c 0 0 (MQ below (zz_Qv D ca zz_dC A a P) args s 0 0 A) D ca zz_dC A 9 68 a [] [(0, .ref (a 44)), (1, .ref (a 37)), (4, .long x4)] I L := by
  obtain ⟨hx, hb, hml, hown, zw, hr, hlocks⟩ := id X
  intro H locs ls hB hl
  unfold zp_X3_find_68 at h
  refine lv_aload_n hx hb dX3_find_68 rfl (lv_at hl 0 rfl) ?_
  refine lv_aload_n hx hb dX3_find_69 rfl (lv_at hl 1 rfl) ?_
  refine lv_lload hx hb dX3_find_70 (lv_at hl 2 rfl) ?_
  refine zz_gov hB hA (zz_runV (As := [.ref (a 37), .long x4]) (rest := []) hx hb hml hown zw hB zM_X3_74 (zc_X3_walk l D ca a I L H.size h) zdC_44 rfl rfl hl.1 rfl (Nat.le_of_ble_eq_true rfl) rfl rfl ⟨Nat.le_of_ble_eq_true rfl, Nat.le_of_ble_eq_true rfl⟩ dX3_find_72 ⟨Nat.le_of_ble_eq_true rfl, Nat.le_of_ble_eq_true rfl⟩) (fun I72 L72 H locs h hB => ?_)
  exact zz_vret hx hb hr hlocks hB h dX3_find_75
def zp_X3_find_17b (K17 : Int64 → Int32 → zz_I → zz_L → Prop) (P : zz_I → zz_L → Prop) (x4 : Int64) (x6 : Int32) (I : zz_I) (L : zz_L) : Prop := (x6 ≤ 0 → zp_X3_find_68 P x4 I L) ∧ (¬ x6 ≤ 0 → (¬ (I 44 4) = 0 → zp_X3_find_68 P x4 I L) ∧ ((I 44 4) = 0 → zp_X3_countWithWeight x6 (fun r33 => (r33 ≤ x4 → ∀ v60 : Int64, v60 = x4 - r33 → (∀ v62 : Int32, v62 = x6 + (-1 : Int32) → (K17 v60 v62 I L))) ∧ (¬ r33 ≤ x4 → ∀ I49 : zz_I, I49 = zz_up I 44 4 x6 → (∀ v62 : Int32, v62 = x6 + (-1 : Int32) → (K17 x4 v62 I49 L)))) I L))
set_option maxHeartbeats 4000000 in
set_option maxRecDepth 100000 in
theorem zq_X3_find_17b {p : Program} {l : Launch} {e : Env} {s : State} {m : MethodId} {args : Array Value} {below : List Frame} {meth : Method} {c : Code} {D : va_G} {ca : Nat → ClassId} {A : Nat → Prop} {a : Nat → Nat} {K17 : Int64 → Int32 → zz_I → zz_L → Prop} {P : zz_I → zz_L → Prop} {I : zz_I} {L : zz_L} {x4 : Int64} {x6 : Int32} (X : zz_X p s m meth c cX3_find RX3 none 9) (hA : ∀ q, s.heap.size ≤ q → A q)  (hK17 : ∀ (y4 : Int64) (y6 : Int32) (I8 : zz_I) (L8 : zz_L), K17 y4 y6 I8 L8 → zz_Go p l e ({ frames := 3, cells := 0, slots := 0, locals := 81 } : Room) s m args below meth c 0 0 (MQ below (zz_Qv D ca zz_dC A a P) args s 0 0 A) D ca zz_dC A 9 17 a [] [(0, .ref (a 44)), (1, .ref (a 37)), (4, .long y4), (6, .int y6)] I8 L8) (h : zp_X3_find_17b K17 P x4 x6 I L) : zz_Go p l e ({ frames := 3, cells := 0, slots := 0, locals := 81 } : Room) s m args below meth c 0 0 (MQ below (zz_Qv D ca zz_dC A a P) args s 0 0 A) D ca zz_dC A 9 17 a [] [(0, .ref (a 44)), (1, .ref (a 37)), (4, .long x4), (6, .int x6)] I L := by
  obtain ⟨hx, hb, hml, hown, zw, hr, hlocks⟩ := id X
  intro H locs ls hB hl
  unfold zp_X3_find_17b at h
  refine lv_iload hx hb dX3_find_17 (lv_at hl 3 rfl) ?_
  refine lv_if_le (tgt := 68) hx hb dX3_find_19 (by decide) (fun c19 => ?_) (fun c19 => ?_)
  · have h := h.1 c19
    exact zq_X3_find_68 X hA  h H locs ls hB (lv_sub hl [0, 1, 2] rfl)
  · have h := h.2 c19
    refine lv_aload_n hx hb dX3_find_22 rfl (lv_at hl 0 rfl) ?_
    refine zz_geti hx hb hown zw hB zF_X3_26 zdC_44 rfl dX3_find_23 ?_
    refine lv_if_ne (tgt := 68) hx hb dX3_find_26 (by decide) (fun c26 => ?_) (fun c26 => ?_)
    · have h := h.1 c26
      exact zq_X3_find_68 X hA  h H locs ls hB (lv_sub hl [0, 1, 2] rfl)
    · have h := h.2 c26
      refine lv_aload_n hx hb dX3_find_29 rfl (lv_at hl 0 rfl) ?_
      refine lv_aload_n hx hb dX3_find_30 rfl (lv_at hl 1 rfl) ?_
      refine lv_iload hx hb dX3_find_31 (lv_at hl 3 rfl) ?_
      refine zz_golp hB hA (zz_runV (As := [.ref (a 37), .int x6]) (rest := []) hx hb hml hown zw hB zM_X3_70 (zc_X3_countWithWeight l D ca a I L H.size h) zdC_44 rfl rfl hl.1 rfl (Nat.le_of_ble_eq_true rfl) rfl rfl ⟨Nat.le_of_ble_eq_true rfl, Nat.le_of_ble_eq_true rfl⟩ dX3_find_33 ⟨Nat.le_of_ble_eq_true rfl, Nat.le_of_ble_eq_true rfl⟩) (fun r33 H locs h hB => ?_)
      refine lv_lstore (lv' := [(7, .long r33), (0, .ref (a 44)), (1, .ref (a 37)), (4, .long x4), (6, .int x6)]) hx hb dX3_find_36 hl (by decide) rfl (fun ls hl => ?_)
      refine lv_lload hx hb dX3_find_38 (lv_at hl 3 rfl) ?_
      refine lv_lload hx hb dX3_find_40 (lv_at hl 0 rfl) ?_
      refine zz_l_ge (tgt := 55) hx hb dX3_find_42 dX3_find_43 (by decide) (fun c42 => ?_) (fun c42 => ?_)
      · have h := h.1 c42
        refine lv_lload hx hb dX3_find_55 (lv_at hl 3 rfl) ?_
        refine lv_lload hx hb dX3_find_57 (lv_at hl 0 rfl) ?_
        refine lv_lsub hx hb dX3_find_59 ?_
        refine lv_topl (fun v60 ev60 => ?_)
        have h := h v60 ev60
        refine lv_lstore (lv' := [(4, .long v60), (7, .long r33), (0, .ref (a 44)), (1, .ref (a 37)), (6, .int x6)]) hx hb dX3_find_60 hl (by decide) rfl (fun ls hl => ?_)
        obtain ⟨v62, ev62⟩ : ∃ z : Int32, z = x6 + (-1 : Int32) := ⟨_, rfl⟩
        have h := h v62 ev62
        refine lv_iinc (v := v62) (lv' := [(6, .int v62), (4, .long v60), (7, .long r33), (0, .ref (a 44)), (1, .ref (a 37))]) hx hb dX3_find_62 hl (k := 4) rfl (by rw [ev62]; rfl) (by decide) rfl (fun ls hl => ?_)
        refine lv_goto (tgt := 17) hx hb dX3_find_65 (by decide) ?_
        exact hK17 _ _ _ _ h H locs ls hB (lv_sub hl [3, 4, 1, 0] rfl)
      · have h := h.2 c42
        refine lv_aload_n hx hb dX3_find_46 rfl (lv_at hl 1 rfl) ?_
        refine lv_iload hx hb dX3_find_47 (lv_at hl 4 rfl) ?_
        refine zz_puti hx hb hown zw hB zP_X3_26 zdC_44 rfl dX3_find_49 (fun H locs hB => ?_)
        obtain ⟨I49, eI49⟩ : ∃ z : zz_I, z = zz_up I 44 4 x6 := ⟨_, rfl⟩
        rw [← eI49] at hB
        have h := h I49 eI49
        refine lv_goto (tgt := 62) hx hb dX3_find_52 (by decide) ?_
        obtain ⟨v62, ev62⟩ : ∃ z : Int32, z = x6 + (-1 : Int32) := ⟨_, rfl⟩
        have h := h v62 ev62
        refine lv_iinc (v := v62) (lv' := [(6, .int v62), (7, .long r33), (0, .ref (a 44)), (1, .ref (a 37)), (4, .long x4)]) hx hb dX3_find_62 hl (k := 4) rfl (by rw [ev62]; rfl) (by decide) rfl (fun ls hl => ?_)
        refine lv_goto (tgt := 17) hx hb dX3_find_65 (by decide) ?_
        exact hK17 _ _ _ _ h H locs ls hB (lv_sub hl [2, 3, 4, 0] rfl)
def zp_X3_find_17  (P : zz_I → zz_L → Prop) (x4 : Int64) (x6 : Int32) (I : zz_I) (L : zz_L) : Prop := ∃ (Inv : Int64 → Int32 → zz_I → zz_L → Prop) (μ : Int64 → Int32 → zz_I → zz_L → Nat), Inv x4 x6 I L ∧ ∀ (y4 : Int64) (y6 : Int32) (I8 : zz_I) (L8 : zz_L), Inv y4 y6 I8 L8 → zp_X3_find_17b  (fun z4 z6 I7 L7 => Inv z4 z6 I7 L7 ∧ μ z4 z6 I7 L7 < μ y4 y6 I8 L8) P y4 y6 I8 L8
set_option maxHeartbeats 4000000 in
set_option maxRecDepth 100000 in
theorem zq_X3_find_17 {p : Program} {l : Launch} {e : Env} {s : State} {m : MethodId} {args : Array Value} {below : List Frame} {meth : Method} {c : Code} {D : va_G} {ca : Nat → ClassId} {A : Nat → Prop} {a : Nat → Nat}  {P : zz_I → zz_L → Prop} {I : zz_I} {L : zz_L} {x4 : Int64} {x6 : Int32} (X : zz_X p s m meth c cX3_find RX3 none 9) (hA : ∀ q, s.heap.size ≤ q → A q)   (h : zp_X3_find_17  P x4 x6 I L) : zz_Go p l e ({ frames := 3, cells := 0, slots := 0, locals := 81 } : Room) s m args below meth c 0 0 (MQ below (zz_Qv D ca zz_dC A a P) args s 0 0 A) D ca zz_dC A 9 17 a [] [(0, .ref (a 44)), (1, .ref (a 37)), (4, .long x4), (6, .int x6)] I L := by
  unfold zp_X3_find_17 at h
  obtain ⟨Inv, μ, hv0, hs⟩ := h
  have key : ∀ (n9 : Nat) (y4 : Int64) (y6 : Int32) (I8 : zz_I) (L8 : zz_L), μ y4 y6 I8 L8 < n9 → Inv y4 y6 I8 L8 → zz_Go p l e ({ frames := 3, cells := 0, slots := 0, locals := 81 } : Room) s m args below meth c 0 0 (MQ below (zz_Qv D ca zz_dC A a P) args s 0 0 A) D ca zz_dC A 9 17 a [] [(0, .ref (a 44)), (1, .ref (a 37)), (4, .long y4), (6, .int y6)] I8 L8 := by
    intro n9
    induction n9 with
    | zero => intro y4 y6 I8 L8 hn; exact absurd hn (Nat.not_lt_zero _)
    | succ n9 ih =>
      intro y4 y6 I8 L8 hn hi
      exact zq_X3_find_17b (K17 := (fun z4 z6 I7 L7 => Inv z4 z6 I7 L7 ∧ μ z4 z6 I7 L7 < μ y4 y6 I8 L8)) X hA   (fun z4 z6 I7 L7 hz => ih z4 z6 I7 L7 (Nat.lt_of_lt_of_le hz.2 (Nat.le_of_lt_succ hn)) hz.1) (hs y4 y6 I8 L8 hi)
  exact key _ x4 x6 I L (Nat.lt_succ_self _) hv0
def zp_X3_find (x2 : Int64) (P : zz_I → zz_L → Prop) (I : zz_I) (L : zz_L) : Prop := ∀ I5 : zz_I, I5 = zz_up I 44 4 (0 : Int32) → (∀ I10 : zz_I, I10 = zz_up I5 44 3 (0 : Int32) → (zp_X3_find_17 P x2 (72 : Int32) I10 L))
set_option maxHeartbeats 4000000 in
set_option maxRecDepth 100000 in
theorem zq_X3_find {p : Program} {l : Launch} {e : Env} {s : State} {m : MethodId} {args : Array Value} {below : List Frame} {meth : Method} {c : Code} {D : va_G} {ca : Nat → ClassId} {A : Nat → Prop} {a : Nat → Nat}  {P : zz_I → zz_L → Prop} {I : zz_I} {L : zz_L} {x2 : Int64} (X : zz_X p s m meth c cX3_find RX3 none 9) (hA : ∀ q, s.heap.size ≤ q → A q)   (h : zp_X3_find x2 P I L) : zz_Go p l e ({ frames := 3, cells := 0, slots := 0, locals := 81 } : Room) s m args below meth c 0 0 (MQ below (zz_Qv D ca zz_dC A a P) args s 0 0 A) D ca zz_dC A 9 0 a [] [(0, .ref (a 44)), (1, .ref (a 37)), (2, .long x2)] I L := by
  obtain ⟨hx, hb, hml, hown, zw, hr, hlocks⟩ := id X
  intro H locs ls hB hl
  unfold zp_X3_find at h
  refine lv_lload_n hx hb dX3_find_0 rfl (lv_at hl 2 rfl) ?_
  refine lv_lstore (lv' := [(4, .long x2), (0, .ref (a 44)), (1, .ref (a 37)), (2, .long x2)]) hx hb dX3_find_1 hl (by decide) rfl (fun ls hl => ?_)
  refine lv_aload_n hx hb dX3_find_3 rfl (lv_at hl 1 rfl) ?_
  refine lv_iconst (v := (0 : Int32)) hx hb dX3_find_4 (by decide) ?_
  refine zz_puti hx hb hown zw hB zP_X3_26 zdC_44 rfl dX3_find_5 (fun H locs hB => ?_)
  obtain ⟨I5, eI5⟩ : ∃ z : zz_I, z = zz_up I 44 4 (0 : Int32) := ⟨_, rfl⟩
  rw [← eI5] at hB
  have h := h I5 eI5
  refine lv_aload_n hx hb dX3_find_8 rfl (lv_at hl 1 rfl) ?_
  refine lv_iconst (v := (0 : Int32)) hx hb dX3_find_9 (by decide) ?_
  refine zz_puti hx hb hown zw hB zP_X3_22 zdC_44 rfl dX3_find_10 (fun H locs hB => ?_)
  obtain ⟨I10, eI10⟩ : ∃ z : zz_I, z = zz_up I5 44 3 (0 : Int32) := ⟨_, rfl⟩
  rw [← eI10] at hB
  have h := h I10 eI10
  refine lv_bipush (v := (72 : Int32)) hx hb dX3_find_13 (by decide) ?_
  refine lv_istore (lv' := [(6, .int (72 : Int32)), (4, .long x2), (0, .ref (a 44)), (1, .ref (a 37)), (2, .long x2)]) hx hb dX3_find_15 hl (by decide) rfl (fun ls hl => ?_)
  exact zq_X3_find_17 X hA  h H locs ls hB (lv_sub hl [2, 3, 1, 0] rfl)
theorem zc_X3_find (l : Launch) (D : va_G) (ca : Nat → ClassId) (a : Nat → Nat) (I : zz_I) (L : zz_L) (sz : Nat) {x2 : Int64} {P : zz_I → zz_L → Prop}  (h : zp_X3_find x2 P I L) : Met l yX3_find [.code yX3_find cX3_find 9 none] ({ frames := 3, cells := 0, slots := 0, locals := 81 } : Room) (zz_Pre D ca zz_dC [.ref (a 44), .ref (a 37), .long x2] a I L sz) (zz_Qv D ca zz_dC (zz_A ca zz_dC a I L sz) a P) 0 0 (zz_A ca zz_dC a I L sz) :=
  zz_start (by decide) (Nat.le_of_ble_eq_true rfl) (fun p e s m below meth c X hsz hA => zq_X3_find X hA  h)
def zp_X3_rankOfPath_70b (K49 : Int64 → Int32 → Int32 → Int32 → Int32 → Prop) (K70 : Int64 → Int32 → Prop) (P : Int64 → Prop) (x2 : Int64) (x4 : Int32) (x5 : Int32) (x6 : Int32) (x7 : Int32) (x8 : Int32) (I : zz_I) (L : zz_L) : Prop := vp_in x7 8 ∧ (((I 47 x7.toNatClampNeg) ≤ x8 → vp_in x7 8 ∧ (vp_in (I 47 x7.toNatClampNeg) 8 ∧ (∀ v119 : Int32, v119 = x5 - (I 46 (I 47 x7.toNatClampNeg).toNatClampNeg) → (vp_in x7 8 ∧ (vp_in (I 47 x7.toNatClampNeg) 8 ∧ (∀ v133 : Int32, v133 = I 40 (I 47 x7.toNatClampNeg).toNatClampNeg → (vp_in x7 8 ∧ (zp_X0_nextUnit x4 (I 47 x7.toNatClampNeg) (fun r145 => ∀ v150 : Int32, v150 = x7 + (1 : Int32) → (K49 x2 r145 v119 v133 v150)) I L)))))))) ∧ (¬ (I 47 x7.toNatClampNeg) ≤ x8 → zp_X3_endsOf x4 x8 x6 x5 (fun r93 => ∀ v97 : Int64, v97 = x2 + r93 → (∀ v98 : Int32, v98 = x8 + (1 : Int32) → (K70 v97 v98))) I L))
set_option maxHeartbeats 4000000 in
set_option maxRecDepth 100000 in
theorem zq_X3_rankOfPath_70b {p : Program} {l : Launch} {e : Env} {s : State} {m : MethodId} {args : Array Value} {below : List Frame} {meth : Method} {c : Code} {D : va_G} {ca : Nat → ClassId} {A : Nat → Prop} {a : Nat → Nat} {K49 : Int64 → Int32 → Int32 → Int32 → Int32 → Prop} {K70 : Int64 → Int32 → Prop} {P : Int64 → Prop} {I : zz_I} {L : zz_L} {x2 : Int64} {x4 : Int32} {x5 : Int32} {x6 : Int32} {x7 : Int32} {x8 : Int32} (X : zz_X p s m meth c cX3_rankOfPath RX3 (some .long) 9) (hA : ∀ q, s.heap.size ≤ q → A q)  (hK49 : ∀ (y2 : Int64) (y4 : Int32) (y5 : Int32) (y6 : Int32) (y7 : Int32), K49 y2 y4 y5 y6 y7 → zz_Go p l e ({ frames := 2, cells := 0, slots := 0, locals := 48 } : Room) s m args below meth c 0 0 (MQ below (zz_Ql D ca zz_dC A a (fun r I9 L9 => P r ∧ I9 = I ∧ L9 = L)) args s 0 0 A) D ca zz_dC A 9 49 a [] [(0, .ref (a 44)), (1, .ref (a 37)), (2, .long y2), (4, .int y4), (5, .int y5), (6, .int y6), (7, .int y7)] I L) (hK70 : ∀ (y2 : Int64) (y8 : Int32), K70 y2 y8 → zz_Go p l e ({ frames := 2, cells := 0, slots := 0, locals := 48 } : Room) s m args below meth c 0 0 (MQ below (zz_Ql D ca zz_dC A a (fun r I9 L9 => P r ∧ I9 = I ∧ L9 = L)) args s 0 0 A) D ca zz_dC A 9 70 a [] [(0, .ref (a 44)), (1, .ref (a 37)), (2, .long y2), (4, .int x4), (5, .int x5), (6, .int x6), (7, .int x7), (8, .int y8)] I L) (h : zp_X3_rankOfPath_70b K49 K70 P x2 x4 x5 x6 x7 x8 I L) : zz_Go p l e ({ frames := 2, cells := 0, slots := 0, locals := 48 } : Room) s m args below meth c 0 0 (MQ below (zz_Ql D ca zz_dC A a (fun r I9 L9 => P r ∧ I9 = I ∧ L9 = L)) args s 0 0 A) D ca zz_dC A 9 70 a [] [(0, .ref (a 44)), (1, .ref (a 37)), (2, .long x2), (4, .int x4), (5, .int x5), (6, .int x6), (7, .int x7), (8, .int x8)] I L := by
  obtain ⟨hx, hb, hml, hown, zw, hr, hlocks⟩ := id X
  intro H locs ls hB hl
  unfold zp_X3_rankOfPath_70b at h
  refine lv_iload hx hb dX3_rankOfPath_70 (lv_at hl 7 rfl) ?_
  refine lv_aload_n hx hb dX3_rankOfPath_72 rfl (lv_at hl 0 rfl) ?_
  refine zz_getr (k' := 47) hx hb hown zw hB zF_X3_19 zdC_44 rfl rfl dX3_rankOfPath_73 ?_
  refine lv_iload hx hb dX3_rankOfPath_76 (lv_at hl 6 rfl) ?_
  obtain ⟨hi78, h⟩ := h
  refine zz_iald hx hb hB zdC_47 hi78 dX3_rankOfPath_78 ?_
  refine lv_icmp_ge (tgt := 104) hx hb dX3_rankOfPath_79 (by decide) (fun c79 => ?_) (fun c79 => ?_)
  · have h := h.1 c79
    refine lv_iload hx hb dX3_rankOfPath_104 (lv_at hl 4 rfl) ?_
    refine lv_aload_n hx hb dX3_rankOfPath_106 rfl (lv_at hl 0 rfl) ?_
    refine zz_getr (k' := 46) hx hb hown zw hB zF_X3_15 zdC_44 rfl rfl dX3_rankOfPath_107 ?_
    refine lv_aload_n hx hb dX3_rankOfPath_110 rfl (lv_at hl 0 rfl) ?_
    refine zz_getr (k' := 47) hx hb hown zw hB zF_X3_19 zdC_44 rfl rfl dX3_rankOfPath_111 ?_
    refine lv_iload hx hb dX3_rankOfPath_114 (lv_at hl 6 rfl) ?_
    obtain ⟨hi116, h⟩ := h
    refine zz_iald hx hb hB zdC_47 hi116 dX3_rankOfPath_116 ?_
    obtain ⟨hi117, h⟩ := h
    refine zz_iald hx hb hB zdC_46 hi117 dX3_rankOfPath_117 ?_
    refine lv_isub hx hb dX3_rankOfPath_118 ?_
    refine lv_topi (fun v119 ev119 => ?_)
    have h := h v119 ev119
    refine lv_istore (lv' := [(5, .int v119), (0, .ref (a 44)), (1, .ref (a 37)), (2, .long x2), (4, .int x4), (6, .int x6), (7, .int x7), (8, .int x8)]) hx hb dX3_rankOfPath_119 hl (by decide) rfl (fun ls hl => ?_)
    refine lv_aload_n hx hb dX3_rankOfPath_121 rfl (lv_at hl 2 rfl) ?_
    refine zz_getr (k' := 40) hx hb hown zw hB zF_X3_67 zdC_37 rfl rfl dX3_rankOfPath_122 ?_
    refine lv_aload_n hx hb dX3_rankOfPath_125 rfl (lv_at hl 1 rfl) ?_
    refine zz_getr (k' := 47) hx hb hown zw hB zF_X3_19 zdC_44 rfl rfl dX3_rankOfPath_126 ?_
    refine lv_iload hx hb dX3_rankOfPath_129 (lv_at hl 6 rfl) ?_
    obtain ⟨hi131, h⟩ := h
    refine zz_iald hx hb hB zdC_47 hi131 dX3_rankOfPath_131 ?_
    obtain ⟨hi132, h⟩ := h
    refine zz_iald hx hb hB zdC_40 hi132 dX3_rankOfPath_132 ?_
    refine lv_topi (fun v133 ev133 => ?_)
    have h := h v133 ev133
    refine lv_istore (lv' := [(6, .int v133), (5, .int v119), (0, .ref (a 44)), (1, .ref (a 37)), (2, .long x2), (4, .int x4), (7, .int x7), (8, .int x8)]) hx hb dX3_rankOfPath_133 hl (by decide) rfl (fun ls hl => ?_)
    refine lv_aload_n hx hb dX3_rankOfPath_135 rfl (lv_at hl 3 rfl) ?_
    refine lv_iload hx hb dX3_rankOfPath_136 (lv_at hl 5 rfl) ?_
    refine lv_aload_n hx hb dX3_rankOfPath_138 rfl (lv_at hl 2 rfl) ?_
    refine zz_getr (k' := 47) hx hb hown zw hB zF_X3_19 zdC_44 rfl rfl dX3_rankOfPath_139 ?_
    refine lv_iload hx hb dX3_rankOfPath_142 (lv_at hl 6 rfl) ?_
    obtain ⟨hi144, h⟩ := h
    refine zz_iald hx hb hB zdC_47 hi144 dX3_rankOfPath_144 ?_
    refine zz_goip hB hA (zz_runV (As := [.int x4, .int (I 47 x7.toNatClampNeg)]) (rest := []) hx hb hml hown zw hB zM_X3_55 (zc_X0_nextUnit l D ca a I L H.size h) zdC_37 rfl rfl hl.1 rfl (Nat.le_of_ble_eq_true rfl) rfl rfl ⟨Nat.le_of_ble_eq_true rfl, Nat.le_of_ble_eq_true rfl⟩ dX3_rankOfPath_145 ⟨Nat.le_of_ble_eq_true rfl, Nat.le_of_ble_eq_true rfl⟩) (fun r145 H locs h hB => ?_)
    refine lv_istore (lv' := [(4, .int r145), (6, .int v133), (5, .int v119), (0, .ref (a 44)), (1, .ref (a 37)), (2, .long x2), (7, .int x7), (8, .int x8)]) hx hb dX3_rankOfPath_148 hl (by decide) rfl (fun ls hl => ?_)
    obtain ⟨v150, ev150⟩ : ∃ z : Int32, z = x7 + (1 : Int32) := ⟨_, rfl⟩
    have h := h v150 ev150
    refine lv_iinc (v := v150) (lv' := [(7, .int v150), (4, .int r145), (6, .int v133), (5, .int v119), (0, .ref (a 44)), (1, .ref (a 37)), (2, .long x2), (8, .int x8)]) hx hb dX3_rankOfPath_150 hl (k := 6) rfl (by rw [ev150]; rfl) (by decide) rfl (fun ls hl => ?_)
    refine lv_goto (tgt := 49) hx hb dX3_rankOfPath_153 (by decide) ?_
    exact hK49 _ _ _ _ _ h H locs ls hB (lv_sub hl [4, 5, 6, 1, 3, 2, 0] rfl)
  · have h := h.2 c79
    refine lv_lload_n hx hb dX3_rankOfPath_82 rfl (lv_at hl 2 rfl) ?_
    refine lv_aload_n hx hb dX3_rankOfPath_83 rfl (lv_at hl 0 rfl) ?_
    refine lv_aload_n hx hb dX3_rankOfPath_84 rfl (lv_at hl 1 rfl) ?_
    refine lv_iload hx hb dX3_rankOfPath_85 (lv_at hl 3 rfl) ?_
    refine lv_iload hx hb dX3_rankOfPath_87 (lv_at hl 7 rfl) ?_
    refine lv_iload hx hb dX3_rankOfPath_89 (lv_at hl 5 rfl) ?_
    refine lv_iload hx hb dX3_rankOfPath_91 (lv_at hl 4 rfl) ?_
    refine zz_golp hB hA (zz_runV (As := [.ref (a 37), .int x4, .int x8, .int x6, .int x5]) (rest := [.long x2]) hx hb hml hown zw hB zM_X3_81 (zc_X3_endsOf l D ca a I L H.size h) zdC_44 rfl rfl hl.1 rfl (Nat.le_of_ble_eq_true rfl) rfl rfl ⟨Nat.le_of_ble_eq_true rfl, Nat.le_of_ble_eq_true rfl⟩ dX3_rankOfPath_93 ⟨Nat.le_of_ble_eq_true rfl, Nat.le_of_ble_eq_true rfl⟩) (fun r93 H locs h hB => ?_)
    refine lv_ladd hx hb dX3_rankOfPath_96 ?_
    refine lv_topl (fun v97 ev97 => ?_)
    have h := h v97 ev97
    refine lv_lstore_n (lv' := [(2, .long v97), (0, .ref (a 44)), (1, .ref (a 37)), (4, .int x4), (5, .int x5), (6, .int x6), (7, .int x7), (8, .int x8)]) hx hb dX3_rankOfPath_97 rfl hl (by decide) rfl (fun ls hl => ?_)
    obtain ⟨v98, ev98⟩ : ∃ z : Int32, z = x8 + (1 : Int32) := ⟨_, rfl⟩
    have h := h v98 ev98
    refine lv_iinc (v := v98) (lv' := [(8, .int v98), (2, .long v97), (0, .ref (a 44)), (1, .ref (a 37)), (4, .int x4), (5, .int x5), (6, .int x6), (7, .int x7)]) hx hb dX3_rankOfPath_98 hl (k := 7) rfl (by rw [ev98]; rfl) (by decide) rfl (fun ls hl => ?_)
    refine lv_goto (tgt := 70) hx hb dX3_rankOfPath_101 (by decide) ?_
    exact hK70 _ _ h H locs ls hB (lv_sub hl [2, 3, 1, 4, 5, 6, 7, 0] rfl)
def zp_X3_rankOfPath_70 (K49 : Int64 → Int32 → Int32 → Int32 → Int32 → Prop) (P : Int64 → Prop) (x2 : Int64) (x4 : Int32) (x5 : Int32) (x6 : Int32) (x7 : Int32) (x8 : Int32) (I : zz_I) (L : zz_L) : Prop := ∃ (Inv : Int64 → Int32 → Prop) (μ : Int64 → Int32 → Nat), Inv x2 x8 ∧ ∀ (y2 : Int64) (y8 : Int32), Inv y2 y8 → zp_X3_rankOfPath_70b K49 (fun z2 z8 => Inv z2 z8 ∧ μ z2 z8 < μ y2 y8) P y2 x4 x5 x6 x7 y8 I L
set_option maxHeartbeats 4000000 in
set_option maxRecDepth 100000 in
theorem zq_X3_rankOfPath_70 {p : Program} {l : Launch} {e : Env} {s : State} {m : MethodId} {args : Array Value} {below : List Frame} {meth : Method} {c : Code} {D : va_G} {ca : Nat → ClassId} {A : Nat → Prop} {a : Nat → Nat} {K49 : Int64 → Int32 → Int32 → Int32 → Int32 → Prop} {P : Int64 → Prop} {I : zz_I} {L : zz_L} {x2 : Int64} {x4 : Int32} {x5 : Int32} {x6 : Int32} {x7 : Int32} {x8 : Int32} (X : zz_X p s m meth c cX3_rankOfPath RX3 (some .long) 9) (hA : ∀ q, s.heap.size ≤ q → A q)  (hK49 : ∀ (y2 : Int64) (y4 : Int32) (y5 : Int32) (y6 : Int32) (y7 : Int32), K49 y2 y4 y5 y6 y7 → zz_Go p l e ({ frames := 2, cells := 0, slots := 0, locals := 48 } : Room) s m args below meth c 0 0 (MQ below (zz_Ql D ca zz_dC A a (fun r I9 L9 => P r ∧ I9 = I ∧ L9 = L)) args s 0 0 A) D ca zz_dC A 9 49 a [] [(0, .ref (a 44)), (1, .ref (a 37)), (2, .long y2), (4, .int y4), (5, .int y5), (6, .int y6), (7, .int y7)] I L) (h : zp_X3_rankOfPath_70 K49 P x2 x4 x5 x6 x7 x8 I L) : zz_Go p l e ({ frames := 2, cells := 0, slots := 0, locals := 48 } : Room) s m args below meth c 0 0 (MQ below (zz_Ql D ca zz_dC A a (fun r I9 L9 => P r ∧ I9 = I ∧ L9 = L)) args s 0 0 A) D ca zz_dC A 9 70 a [] [(0, .ref (a 44)), (1, .ref (a 37)), (2, .long x2), (4, .int x4), (5, .int x5), (6, .int x6), (7, .int x7), (8, .int x8)] I L := by
  unfold zp_X3_rankOfPath_70 at h
  obtain ⟨Inv, μ, hv0, hs⟩ := h
  have key : ∀ (n9 : Nat) (y2 : Int64) (y8 : Int32), μ y2 y8 < n9 → Inv y2 y8 → zz_Go p l e ({ frames := 2, cells := 0, slots := 0, locals := 48 } : Room) s m args below meth c 0 0 (MQ below (zz_Ql D ca zz_dC A a (fun r I9 L9 => P r ∧ I9 = I ∧ L9 = L)) args s 0 0 A) D ca zz_dC A 9 70 a [] [(0, .ref (a 44)), (1, .ref (a 37)), (2, .long y2), (4, .int x4), (5, .int x5), (6, .int x6), (7, .int x7), (8, .int y8)] I L := by
    intro n9
    induction n9 with
    | zero => intro y2 y8 hn; exact absurd hn (Nat.not_lt_zero _)
    | succ n9 ih =>
      intro y2 y8 hn hi
      exact zq_X3_rankOfPath_70b (K70 := (fun z2 z8 => Inv z2 z8 ∧ μ z2 z8 < μ y2 y8)) X hA  hK49 (fun z2 z8 hz => ih z2 z8 (Nat.lt_of_lt_of_le hz.2 (Nat.le_of_lt_succ hn)) hz.1) (hs y2 y8 hi)
  exact key _ x2 x8 (Nat.lt_succ_self _) hv0
def zp_X3_rankOfPath_49b (K49 : Int64 → Int32 → Int32 → Int32 → Int32 → Prop) (P : Int64 → Prop) (x2 : Int64) (x4 : Int32) (x5 : Int32) (x6 : Int32) (x7 : Int32) (I : zz_I) (L : zz_L) : Prop := ((I 44 3) ≤ x7 → P x2) ∧ (¬ (I 44 3) ≤ x7 → ((I 37 6) ≤ x4 → P x2) ∧ (¬ (I 37 6) ≤ x4 → zp_X3_rankOfPath_70 K49 P x2 x4 x5 x6 x7 (0 : Int32) I L))
set_option maxHeartbeats 4000000 in
set_option maxRecDepth 100000 in
theorem zq_X3_rankOfPath_49b {p : Program} {l : Launch} {e : Env} {s : State} {m : MethodId} {args : Array Value} {below : List Frame} {meth : Method} {c : Code} {D : va_G} {ca : Nat → ClassId} {A : Nat → Prop} {a : Nat → Nat} {K49 : Int64 → Int32 → Int32 → Int32 → Int32 → Prop} {P : Int64 → Prop} {I : zz_I} {L : zz_L} {x2 : Int64} {x4 : Int32} {x5 : Int32} {x6 : Int32} {x7 : Int32} (X : zz_X p s m meth c cX3_rankOfPath RX3 (some .long) 9) (hA : ∀ q, s.heap.size ≤ q → A q)  (hK49 : ∀ (y2 : Int64) (y4 : Int32) (y5 : Int32) (y6 : Int32) (y7 : Int32), K49 y2 y4 y5 y6 y7 → zz_Go p l e ({ frames := 2, cells := 0, slots := 0, locals := 48 } : Room) s m args below meth c 0 0 (MQ below (zz_Ql D ca zz_dC A a (fun r I9 L9 => P r ∧ I9 = I ∧ L9 = L)) args s 0 0 A) D ca zz_dC A 9 49 a [] [(0, .ref (a 44)), (1, .ref (a 37)), (2, .long y2), (4, .int y4), (5, .int y5), (6, .int y6), (7, .int y7)] I L) (h : zp_X3_rankOfPath_49b K49 P x2 x4 x5 x6 x7 I L) : zz_Go p l e ({ frames := 2, cells := 0, slots := 0, locals := 48 } : Room) s m args below meth c 0 0 (MQ below (zz_Ql D ca zz_dC A a (fun r I9 L9 => P r ∧ I9 = I ∧ L9 = L)) args s 0 0 A) D ca zz_dC A 9 49 a [] [(0, .ref (a 44)), (1, .ref (a 37)), (2, .long x2), (4, .int x4), (5, .int x5), (6, .int x6), (7, .int x7)] I L := by
  obtain ⟨hx, hb, hml, hown, zw, hr, hlocks⟩ := id X
  intro H locs ls hB hl
  unfold zp_X3_rankOfPath_49b at h
  refine lv_iload hx hb dX3_rankOfPath_49 (lv_at hl 6 rfl) ?_
  refine lv_aload_n hx hb dX3_rankOfPath_51 rfl (lv_at hl 0 rfl) ?_
  refine zz_geti hx hb hown zw hB zF_X3_22 zdC_44 rfl dX3_rankOfPath_52 ?_
  refine lv_icmp_ge (tgt := 156) hx hb dX3_rankOfPath_55 (by decide) (fun c55 => ?_) (fun c55 => ?_)
  · have h := h.1 c55
    refine lv_lload_n hx hb dX3_rankOfPath_156 rfl (lv_at hl 2 rfl) ?_
    exact zz_lret hx hb hr hlocks hB ⟨h, rfl, rfl⟩ dX3_rankOfPath_157
  · have h := h.2 c55
    refine lv_iload hx hb dX3_rankOfPath_58 (lv_at hl 3 rfl) ?_
    refine lv_aload_n hx hb dX3_rankOfPath_60 rfl (lv_at hl 1 rfl) ?_
    refine zz_geti hx hb hown zw hB zF_X3_35 zdC_37 rfl dX3_rankOfPath_61 ?_
    refine lv_icmp_ge (tgt := 156) hx hb dX3_rankOfPath_64 (by decide) (fun c64 => ?_) (fun c64 => ?_)
    · have h := h.1 c64
      refine lv_lload_n hx hb dX3_rankOfPath_156 rfl (lv_at hl 2 rfl) ?_
      exact zz_lret hx hb hr hlocks hB ⟨h, rfl, rfl⟩ dX3_rankOfPath_157
    · have h := h.2 c64
      refine lv_iconst (v := (0 : Int32)) hx hb dX3_rankOfPath_67 (by decide) ?_
      refine lv_istore (lv' := [(8, .int (0 : Int32)), (0, .ref (a 44)), (1, .ref (a 37)), (2, .long x2), (4, .int x4), (5, .int x5), (6, .int x6), (7, .int x7)]) hx hb dX3_rankOfPath_68 hl (by decide) rfl (fun ls hl => ?_)
      exact zq_X3_rankOfPath_70 X hA hK49 h H locs ls hB (lv_sub hl [1, 2, 3, 4, 5, 6, 7, 0] rfl)
def zp_X3_rankOfPath_49  (P : Int64 → Prop) (x2 : Int64) (x4 : Int32) (x5 : Int32) (x6 : Int32) (x7 : Int32) (I : zz_I) (L : zz_L) : Prop := ∃ (Inv : Int64 → Int32 → Int32 → Int32 → Int32 → Prop) (μ : Int64 → Int32 → Int32 → Int32 → Int32 → Nat), Inv x2 x4 x5 x6 x7 ∧ ∀ (y2 : Int64) (y4 : Int32) (y5 : Int32) (y6 : Int32) (y7 : Int32), Inv y2 y4 y5 y6 y7 → zp_X3_rankOfPath_49b  (fun z2 z4 z5 z6 z7 => Inv z2 z4 z5 z6 z7 ∧ μ z2 z4 z5 z6 z7 < μ y2 y4 y5 y6 y7) P y2 y4 y5 y6 y7 I L
set_option maxHeartbeats 4000000 in
set_option maxRecDepth 100000 in
theorem zq_X3_rankOfPath_49 {p : Program} {l : Launch} {e : Env} {s : State} {m : MethodId} {args : Array Value} {below : List Frame} {meth : Method} {c : Code} {D : va_G} {ca : Nat → ClassId} {A : Nat → Prop} {a : Nat → Nat}  {P : Int64 → Prop} {I : zz_I} {L : zz_L} {x2 : Int64} {x4 : Int32} {x5 : Int32} {x6 : Int32} {x7 : Int32} (X : zz_X p s m meth c cX3_rankOfPath RX3 (some .long) 9) (hA : ∀ q, s.heap.size ≤ q → A q)   (h : zp_X3_rankOfPath_49  P x2 x4 x5 x6 x7 I L) : zz_Go p l e ({ frames := 2, cells := 0, slots := 0, locals := 48 } : Room) s m args below meth c 0 0 (MQ below (zz_Ql D ca zz_dC A a (fun r I9 L9 => P r ∧ I9 = I ∧ L9 = L)) args s 0 0 A) D ca zz_dC A 9 49 a [] [(0, .ref (a 44)), (1, .ref (a 37)), (2, .long x2), (4, .int x4), (5, .int x5), (6, .int x6), (7, .int x7)] I L := by
  unfold zp_X3_rankOfPath_49 at h
  obtain ⟨Inv, μ, hv0, hs⟩ := h
  have key : ∀ (n9 : Nat) (y2 : Int64) (y4 : Int32) (y5 : Int32) (y6 : Int32) (y7 : Int32), μ y2 y4 y5 y6 y7 < n9 → Inv y2 y4 y5 y6 y7 → zz_Go p l e ({ frames := 2, cells := 0, slots := 0, locals := 48 } : Room) s m args below meth c 0 0 (MQ below (zz_Ql D ca zz_dC A a (fun r I9 L9 => P r ∧ I9 = I ∧ L9 = L)) args s 0 0 A) D ca zz_dC A 9 49 a [] [(0, .ref (a 44)), (1, .ref (a 37)), (2, .long y2), (4, .int y4), (5, .int y5), (6, .int y6), (7, .int y7)] I L := by
    intro n9
    induction n9 with
    | zero => intro y2 y4 y5 y6 y7 hn; exact absurd hn (Nat.not_lt_zero _)
    | succ n9 ih =>
      intro y2 y4 y5 y6 y7 hn hi
      exact zq_X3_rankOfPath_49b (K49 := (fun z2 z4 z5 z6 z7 => Inv z2 z4 z5 z6 z7 ∧ μ z2 z4 z5 z6 z7 < μ y2 y4 y5 y6 y7)) X hA   (fun z2 z4 z5 z6 z7 hz => ih z2 z4 z5 z6 z7 (Nat.lt_of_lt_of_le hz.2 (Nat.le_of_lt_succ hn)) hz.1) (hs y2 y4 y5 y6 y7 hi)
  exact key _ x2 x4 x5 x6 x7 (Nat.lt_succ_self _) hv0
def zp_X3_rankOfPath_6b (K6 : Int64 → Int32 → Prop) (P : Int64 → Prop) (x2 : Int64) (x4 : Int32) (I : zz_I) (L : zz_L) : Prop := (x4 ≤ (I 44 4) → ∀ v38 : Int32, v38 = I 44 4 → (∀ v44 : Int32, v44 = I 37 8 → (zp_X3_rankOfPath_49 P x2 (0 : Int32) v38 v44 (0 : Int32) I L))) ∧ (¬ x4 ≤ (I 44 4) → zp_X3_countWithWeight x4 (fun r20 => ∀ v24 : Int64, v24 = x2 + r20 → (∀ v25 : Int32, v25 = x4 + (-1 : Int32) → (K6 v24 v25))) I L)
set_option maxHeartbeats 4000000 in
set_option maxRecDepth 100000 in
theorem zq_X3_rankOfPath_6b {p : Program} {l : Launch} {e : Env} {s : State} {m : MethodId} {args : Array Value} {below : List Frame} {meth : Method} {c : Code} {D : va_G} {ca : Nat → ClassId} {A : Nat → Prop} {a : Nat → Nat} {K6 : Int64 → Int32 → Prop} {P : Int64 → Prop} {I : zz_I} {L : zz_L} {x2 : Int64} {x4 : Int32} (X : zz_X p s m meth c cX3_rankOfPath RX3 (some .long) 9) (hA : ∀ q, s.heap.size ≤ q → A q)  (hK6 : ∀ (y2 : Int64) (y4 : Int32), K6 y2 y4 → zz_Go p l e ({ frames := 2, cells := 0, slots := 0, locals := 48 } : Room) s m args below meth c 0 0 (MQ below (zz_Ql D ca zz_dC A a (fun r I9 L9 => P r ∧ I9 = I ∧ L9 = L)) args s 0 0 A) D ca zz_dC A 9 6 a [] [(0, .ref (a 44)), (1, .ref (a 37)), (2, .long y2), (4, .int y4)] I L) (h : zp_X3_rankOfPath_6b K6 P x2 x4 I L) : zz_Go p l e ({ frames := 2, cells := 0, slots := 0, locals := 48 } : Room) s m args below meth c 0 0 (MQ below (zz_Ql D ca zz_dC A a (fun r I9 L9 => P r ∧ I9 = I ∧ L9 = L)) args s 0 0 A) D ca zz_dC A 9 6 a [] [(0, .ref (a 44)), (1, .ref (a 37)), (2, .long x2), (4, .int x4)] I L := by
  obtain ⟨hx, hb, hml, hown, zw, hr, hlocks⟩ := id X
  intro H locs ls hB hl
  unfold zp_X3_rankOfPath_6b at h
  refine lv_iload hx hb dX3_rankOfPath_6 (lv_at hl 3 rfl) ?_
  refine lv_aload_n hx hb dX3_rankOfPath_8 rfl (lv_at hl 0 rfl) ?_
  refine zz_geti hx hb hown zw hB zF_X3_26 zdC_44 rfl dX3_rankOfPath_9 ?_
  refine lv_icmp_le (tgt := 31) hx hb dX3_rankOfPath_12 (by decide) (fun c12 => ?_) (fun c12 => ?_)
  · have h := h.1 c12
    refine lv_iconst (v := (0 : Int32)) hx hb dX3_rankOfPath_31 (by decide) ?_
    refine lv_istore (lv' := [(4, .int (0 : Int32)), (0, .ref (a 44)), (1, .ref (a 37)), (2, .long x2)]) hx hb dX3_rankOfPath_32 hl (by decide) rfl (fun ls hl => ?_)
    refine lv_aload_n hx hb dX3_rankOfPath_34 rfl (lv_at hl 1 rfl) ?_
    refine zz_geti hx hb hown zw hB zF_X3_26 zdC_44 rfl dX3_rankOfPath_35 ?_
    refine lv_topi (fun v38 ev38 => ?_)
    have h := h v38 ev38
    refine lv_istore (lv' := [(5, .int v38), (4, .int (0 : Int32)), (0, .ref (a 44)), (1, .ref (a 37)), (2, .long x2)]) hx hb dX3_rankOfPath_38 hl (by decide) rfl (fun ls hl => ?_)
    refine lv_aload_n hx hb dX3_rankOfPath_40 rfl (lv_at hl 3 rfl) ?_
    refine zz_geti hx hb hown zw hB zF_X3_78 zdC_37 rfl dX3_rankOfPath_41 ?_
    refine lv_topi (fun v44 ev44 => ?_)
    have h := h v44 ev44
    refine lv_istore (lv' := [(6, .int v44), (5, .int v38), (4, .int (0 : Int32)), (0, .ref (a 44)), (1, .ref (a 37)), (2, .long x2)]) hx hb dX3_rankOfPath_44 hl (by decide) rfl (fun ls hl => ?_)
    refine lv_iconst (v := (0 : Int32)) hx hb dX3_rankOfPath_46 (by decide) ?_
    refine lv_istore (lv' := [(7, .int (0 : Int32)), (6, .int v44), (5, .int v38), (4, .int (0 : Int32)), (0, .ref (a 44)), (1, .ref (a 37)), (2, .long x2)]) hx hb dX3_rankOfPath_47 hl (by decide) rfl (fun ls hl => ?_)
    exact zq_X3_rankOfPath_49 X hA  h H locs ls hB (lv_sub hl [4, 5, 6, 3, 2, 1, 0] rfl)
  · have h := h.2 c12
    refine lv_lload_n hx hb dX3_rankOfPath_15 rfl (lv_at hl 2 rfl) ?_
    refine lv_aload_n hx hb dX3_rankOfPath_16 rfl (lv_at hl 0 rfl) ?_
    refine lv_aload_n hx hb dX3_rankOfPath_17 rfl (lv_at hl 1 rfl) ?_
    refine lv_iload hx hb dX3_rankOfPath_18 (lv_at hl 3 rfl) ?_
    refine zz_golp hB hA (zz_runV (As := [.ref (a 37), .int x4]) (rest := [.long x2]) hx hb hml hown zw hB zM_X3_70 (zc_X3_countWithWeight l D ca a I L H.size h) zdC_44 rfl rfl hl.1 rfl (Nat.le_of_ble_eq_true rfl) rfl rfl ⟨Nat.le_of_ble_eq_true rfl, Nat.le_of_ble_eq_true rfl⟩ dX3_rankOfPath_20 ⟨Nat.le_of_ble_eq_true rfl, Nat.le_of_ble_eq_true rfl⟩) (fun r20 H locs h hB => ?_)
    refine lv_ladd hx hb dX3_rankOfPath_23 ?_
    refine lv_topl (fun v24 ev24 => ?_)
    have h := h v24 ev24
    refine lv_lstore_n (lv' := [(2, .long v24), (0, .ref (a 44)), (1, .ref (a 37)), (4, .int x4)]) hx hb dX3_rankOfPath_24 rfl hl (by decide) rfl (fun ls hl => ?_)
    obtain ⟨v25, ev25⟩ : ∃ z : Int32, z = x4 + (-1 : Int32) := ⟨_, rfl⟩
    have h := h v25 ev25
    refine lv_iinc (v := v25) (lv' := [(4, .int v25), (2, .long v24), (0, .ref (a 44)), (1, .ref (a 37))]) hx hb dX3_rankOfPath_25 hl (k := 3) rfl (by rw [ev25]; rfl) (by decide) rfl (fun ls hl => ?_)
    refine lv_goto (tgt := 6) hx hb dX3_rankOfPath_28 (by decide) ?_
    exact hK6 _ _ h H locs ls hB (lv_sub hl [2, 3, 1, 0] rfl)
def zp_X3_rankOfPath_6  (P : Int64 → Prop) (x2 : Int64) (x4 : Int32) (I : zz_I) (L : zz_L) : Prop := ∃ (Inv : Int64 → Int32 → Prop) (μ : Int64 → Int32 → Nat), Inv x2 x4 ∧ ∀ (y2 : Int64) (y4 : Int32), Inv y2 y4 → zp_X3_rankOfPath_6b  (fun z2 z4 => Inv z2 z4 ∧ μ z2 z4 < μ y2 y4) P y2 y4 I L
set_option maxHeartbeats 4000000 in
set_option maxRecDepth 100000 in
theorem zq_X3_rankOfPath_6 {p : Program} {l : Launch} {e : Env} {s : State} {m : MethodId} {args : Array Value} {below : List Frame} {meth : Method} {c : Code} {D : va_G} {ca : Nat → ClassId} {A : Nat → Prop} {a : Nat → Nat}  {P : Int64 → Prop} {I : zz_I} {L : zz_L} {x2 : Int64} {x4 : Int32} (X : zz_X p s m meth c cX3_rankOfPath RX3 (some .long) 9) (hA : ∀ q, s.heap.size ≤ q → A q)   (h : zp_X3_rankOfPath_6  P x2 x4 I L) : zz_Go p l e ({ frames := 2, cells := 0, slots := 0, locals := 48 } : Room) s m args below meth c 0 0 (MQ below (zz_Ql D ca zz_dC A a (fun r I9 L9 => P r ∧ I9 = I ∧ L9 = L)) args s 0 0 A) D ca zz_dC A 9 6 a [] [(0, .ref (a 44)), (1, .ref (a 37)), (2, .long x2), (4, .int x4)] I L := by
  unfold zp_X3_rankOfPath_6 at h
  obtain ⟨Inv, μ, hv0, hs⟩ := h
  have key : ∀ (n9 : Nat) (y2 : Int64) (y4 : Int32), μ y2 y4 < n9 → Inv y2 y4 → zz_Go p l e ({ frames := 2, cells := 0, slots := 0, locals := 48 } : Room) s m args below meth c 0 0 (MQ below (zz_Ql D ca zz_dC A a (fun r I9 L9 => P r ∧ I9 = I ∧ L9 = L)) args s 0 0 A) D ca zz_dC A 9 6 a [] [(0, .ref (a 44)), (1, .ref (a 37)), (2, .long y2), (4, .int y4)] I L := by
    intro n9
    induction n9 with
    | zero => intro y2 y4 hn; exact absurd hn (Nat.not_lt_zero _)
    | succ n9 ih =>
      intro y2 y4 hn hi
      exact zq_X3_rankOfPath_6b (K6 := (fun z2 z4 => Inv z2 z4 ∧ μ z2 z4 < μ y2 y4)) X hA   (fun z2 z4 hz => ih z2 z4 (Nat.lt_of_lt_of_le hz.2 (Nat.le_of_lt_succ hn)) hz.1) (hs y2 y4 hi)
  exact key _ x2 x4 (Nat.lt_succ_self _) hv0
def zp_X3_rankOfPath  (P : Int64 → Prop) (I : zz_I) (L : zz_L) : Prop := zp_X3_rankOfPath_6 P (0 : Int64) (72 : Int32) I L
set_option maxHeartbeats 4000000 in
set_option maxRecDepth 100000 in
theorem zq_X3_rankOfPath {p : Program} {l : Launch} {e : Env} {s : State} {m : MethodId} {args : Array Value} {below : List Frame} {meth : Method} {c : Code} {D : va_G} {ca : Nat → ClassId} {A : Nat → Prop} {a : Nat → Nat}  {P : Int64 → Prop} {I : zz_I} {L : zz_L}  (X : zz_X p s m meth c cX3_rankOfPath RX3 (some .long) 9) (hA : ∀ q, s.heap.size ≤ q → A q)   (h : zp_X3_rankOfPath  P I L) : zz_Go p l e ({ frames := 2, cells := 0, slots := 0, locals := 48 } : Room) s m args below meth c 0 0 (MQ below (zz_Ql D ca zz_dC A a (fun r I9 L9 => P r ∧ I9 = I ∧ L9 = L)) args s 0 0 A) D ca zz_dC A 9 0 a [] [(0, .ref (a 44)), (1, .ref (a 37))] I L := by
  obtain ⟨hx, hb, hml, hown, zw, hr, hlocks⟩ := id X
  intro H locs ls hB hl
  unfold zp_X3_rankOfPath at h
  refine lv_lconst (v := (0 : Int64)) hx hb dX3_rankOfPath_0 (by decide) ?_
  refine lv_lstore_n (lv' := [(2, .long (0 : Int64)), (0, .ref (a 44)), (1, .ref (a 37))]) hx hb dX3_rankOfPath_1 rfl hl (by decide) rfl (fun ls hl => ?_)
  refine lv_bipush (v := (72 : Int32)) hx hb dX3_rankOfPath_2 (by decide) ?_
  refine lv_istore (lv' := [(4, .int (72 : Int32)), (2, .long (0 : Int64)), (0, .ref (a 44)), (1, .ref (a 37))]) hx hb dX3_rankOfPath_4 hl (by decide) rfl (fun ls hl => ?_)
  exact zq_X3_rankOfPath_6 X hA  h H locs ls hB (lv_sub hl [2, 3, 1, 0] rfl)
theorem zc_X3_rankOfPath (l : Launch) (D : va_G) (ca : Nat → ClassId) (a : Nat → Nat) (I : zz_I) (L : zz_L) (sz : Nat)  {P : Int64 → Prop}  (h : zp_X3_rankOfPath  P I L) : Met l yX3_rankOfPath [.code yX3_rankOfPath cX3_rankOfPath 9 (some .long)] ({ frames := 2, cells := 0, slots := 0, locals := 48 } : Room) (zz_Pre D ca zz_dC [.ref (a 44), .ref (a 37)] a I L sz) (zz_Ql D ca zz_dC (zz_A ca zz_dC a I L sz) a (fun r I9 L9 => P r ∧ I9 = I ∧ L9 = L)) 0 0 (zz_A ca zz_dC a I L sz) :=
  zz_start (by decide) (Nat.le_of_ble_eq_true rfl) (fun p e s m below meth c X hsz hA => zq_X3_rankOfPath X hA  h)
def zp_X4_append (x1 : Int32) (P : zz_I → zz_L → Prop) (I : zz_I) (L : zz_L) : Prop := ((I 1 1) < 0 → P I L) ∧ (¬ (I 1 1) < 0 → ((110 : Int32) ≤ (I 1 1) → P I L) ∧ (¬ (110 : Int32) ≤ (I 1 1) → vp_in (I 1 1) 110 ∧ (∀ I25 : zz_I, I25 = zz_up I 2 (I 1 1).toNatClampNeg x1 → (∀ I33 : zz_I, I33 = zz_up I25 1 1 ((I25 1 1) + (1 : Int32)) → (P I33 L)))))
set_option maxHeartbeats 4000000 in
set_option maxRecDepth 100000 in
theorem zq_X4_append {p : Program} {l : Launch} {e : Env} {s : State} {m : MethodId} {args : Array Value} {below : List Frame} {meth : Method} {c : Code} {D : va_G} {ca : Nat → ClassId} {A : Nat → Prop} {a : Nat → Nat}  {P : zz_I → zz_L → Prop} {I : zz_I} {L : zz_L} {x1 : Int32} (X : zz_X p s m meth c cX4_append RX4 none 2) (hA : ∀ q, s.heap.size ≤ q → A q)   (h : zp_X4_append x1 P I L) : zz_Go p l e ({ frames := 0, cells := 0, slots := 0, locals := 0 } : Room) s m args below meth c 0 0 (MQ below (zz_Qv D ca zz_dC A a P) args s 0 0 A) D ca zz_dC A 2 0 a [] [(0, .ref (a 1)), (1, .int x1)] I L := by
  obtain ⟨hx, hb, hml, hown, zw, hr, hlocks⟩ := id X
  intro H locs ls hB hl
  unfold zp_X4_append at h
  refine lv_aload_n hx hb dX4_append_0 rfl (lv_at hl 0 rfl) ?_
  refine zz_geti hx hb hown zw hB zF_X4_15 zdC_1 rfl dX4_append_1 ?_
  refine lv_if_lt (tgt := 36) hx hb dX4_append_4 (by decide) (fun c4 => ?_) (fun c4 => ?_)
  · have h := h.1 c4
    exact zz_vret hx hb hr hlocks hB h dX4_append_36
  · have h := h.2 c4
    refine lv_aload_n hx hb dX4_append_7 rfl (lv_at hl 0 rfl) ?_
    refine zz_geti hx hb hown zw hB zF_X4_15 zdC_1 rfl dX4_append_8 ?_
    refine lv_bipush (v := (110 : Int32)) hx hb dX4_append_11 (by decide) ?_
    refine lv_icmp_ge (tgt := 36) hx hb dX4_append_13 (by decide) (fun c13 => ?_) (fun c13 => ?_)
    · have h := h.1 c13
      exact zz_vret hx hb hr hlocks hB h dX4_append_36
    · have h := h.2 c13
      refine lv_aload_n hx hb dX4_append_16 rfl (lv_at hl 0 rfl) ?_
      refine zz_getr (k' := 2) hx hb hown zw hB zF_X4_9 zdC_1 rfl rfl dX4_append_17 ?_
      refine lv_aload_n hx hb dX4_append_20 rfl (lv_at hl 0 rfl) ?_
      refine zz_geti hx hb hown zw hB zF_X4_15 zdC_1 rfl dX4_append_21 ?_
      refine lv_iload_n hx hb dX4_append_24 rfl (lv_at hl 1 rfl) ?_
      obtain ⟨hi25, h⟩ := h
      refine zz_iast hx hb hB zdC_2 hi25 dX4_append_25 (fun H locs hB => ?_)
      obtain ⟨I25, eI25⟩ : ∃ z : zz_I, z = zz_up I 2 (I 1 1).toNatClampNeg x1 := ⟨_, rfl⟩
      rw [← eI25] at hB
      have h := h I25 eI25
      refine lv_aload_n hx hb dX4_append_26 rfl (lv_at hl 0 rfl) ?_
      refine lv_dup hx hb dX4_append_27 rfl ?_
      refine zz_geti hx hb hown zw hB zF_X4_15 zdC_1 rfl dX4_append_28 ?_
      refine lv_iconst (v := (1 : Int32)) hx hb dX4_append_31 (by decide) ?_
      refine lv_iadd hx hb dX4_append_32 ?_
      refine zz_puti hx hb hown zw hB zP_X4_15 zdC_1 rfl dX4_append_33 (fun H locs hB => ?_)
      obtain ⟨I33, eI33⟩ : ∃ z : zz_I, z = zz_up I25 1 1 ((I25 1 1) + (1 : Int32)) := ⟨_, rfl⟩
      rw [← eI33] at hB
      have h := h I33 eI33
      exact zz_vret hx hb hr hlocks hB h dX4_append_36
theorem zc_X4_append (l : Launch) (D : va_G) (ca : Nat → ClassId) (a : Nat → Nat) (I : zz_I) (L : zz_L) (sz : Nat) {x1 : Int32} {P : zz_I → zz_L → Prop}  (h : zp_X4_append x1 P I L) : Met l yX4_append [.code yX4_append cX4_append 2 none] ({ frames := 0, cells := 0, slots := 0, locals := 0 } : Room) (zz_Pre D ca zz_dC [.ref (a 1), .int x1] a I L sz) (zz_Qv D ca zz_dC (zz_A ca zz_dC a I L sz) a P) 0 0 (zz_A ca zz_dC a I L sz) :=
  zz_start (by decide) (Nat.le_of_ble_eq_true rfl) (fun p e s m below meth c X hsz hA => zq_X4_append X hA  h)
def zp_X4_isLetter (x0 : Int32) (P : Int32 → Prop) (I : zz_I) (L : zz_L) : Prop := (x0 < (97 : Int32) → P (0 : Int32)) ∧ (¬ x0 < (97 : Int32) → ((103 : Int32) ≤ x0 → P (0 : Int32)) ∧ (¬ (103 : Int32) ≤ x0 → P (1 : Int32)))
set_option maxHeartbeats 4000000 in
set_option maxRecDepth 100000 in
theorem zq_X4_isLetter {p : Program} {l : Launch} {e : Env} {s : State} {m : MethodId} {args : Array Value} {below : List Frame} {meth : Method} {c : Code} {D : va_G} {ca : Nat → ClassId} {A : Nat → Prop} {a : Nat → Nat}  {P : Int32 → Prop} {I : zz_I} {L : zz_L} {x0 : Int32} (X : zz_X p s m meth c cX4_isLetter RX4 (some .boolean) 1) (hA : ∀ q, s.heap.size ≤ q → A q)   (h : zp_X4_isLetter x0 P I L) : zz_Go p l e ({ frames := 0, cells := 0, slots := 0, locals := 0 } : Room) s m args below meth c 0 0 (MQ below (zz_Qi D ca zz_dC A a (fun r I9 L9 => P r ∧ I9 = I ∧ L9 = L)) args s 0 0 A) D ca zz_dC A 1 0 a [] [(0, .int x0)] I L := by
  obtain ⟨hx, hb, hml, hown, zw, hr, hlocks⟩ := id X
  intro H locs ls hB hl
  unfold zp_X4_isLetter at h
  refine lv_iload_n hx hb dX4_isLetter_0 rfl (lv_at hl 0 rfl) ?_
  refine lv_bipush (v := (97 : Int32)) hx hb dX4_isLetter_1 (by decide) ?_
  refine lv_icmp_lt (tgt := 16) hx hb dX4_isLetter_3 (by decide) (fun c3 => ?_) (fun c3 => ?_)
  · have h := h.1 c3
    refine lv_iconst (v := (0 : Int32)) hx hb dX4_isLetter_16 (by decide) ?_
    exact zz_zret hx hb hr hlocks zz_bool0 hB ⟨h, rfl, rfl⟩ dX4_isLetter_17
  · have h := h.2 c3
    refine lv_iload_n hx hb dX4_isLetter_6 rfl (lv_at hl 0 rfl) ?_
    refine lv_bipush (v := (103 : Int32)) hx hb dX4_isLetter_7 (by decide) ?_
    refine lv_icmp_ge (tgt := 16) hx hb dX4_isLetter_9 (by decide) (fun c9 => ?_) (fun c9 => ?_)
    · have h := h.1 c9
      refine lv_iconst (v := (0 : Int32)) hx hb dX4_isLetter_16 (by decide) ?_
      exact zz_zret hx hb hr hlocks zz_bool0 hB ⟨h, rfl, rfl⟩ dX4_isLetter_17
    · have h := h.2 c9
      refine lv_iconst (v := (1 : Int32)) hx hb dX4_isLetter_12 (by decide) ?_
      refine lv_goto (tgt := 17) hx hb dX4_isLetter_13 (by decide) ?_
      exact zz_zret hx hb hr hlocks zz_bool1 hB ⟨h, rfl, rfl⟩ dX4_isLetter_17
theorem zc_X4_isLetter (l : Launch) (D : va_G) (ca : Nat → ClassId) (a : Nat → Nat) (I : zz_I) (L : zz_L) (sz : Nat) {x0 : Int32} {P : Int32 → Prop}  (h : zp_X4_isLetter x0 P I L) : Met l yX4_isLetter [.code yX4_isLetter cX4_isLetter 1 (some .boolean)] ({ frames := 0, cells := 0, slots := 0, locals := 0 } : Room) (zz_Pre D ca zz_dC [.int x0] a I L sz) (zz_Qi D ca zz_dC (zz_A ca zz_dC a I L sz) a (fun r I9 L9 => P r ∧ I9 = I ∧ L9 = L)) 0 0 (zz_A ca zz_dC a I L sz) :=
  zz_start (by decide) (Nat.le_of_ble_eq_true rfl) (fun p e s m below meth c X hsz hA => zq_X4_isLetter X hA  h)
def zp_X4_peek  (P : Int32 → Prop) (I : zz_I) (L : zz_L) : Prop := ((I 1 4) < 0 → P (-9 : Int32)) ∧ (¬ (I 1 4) < 0 → ((I 1 1) ≤ (I 1 4) → P (-9 : Int32)) ∧ (¬ (I 1 1) ≤ (I 1 4) → ((110 : Int32) ≤ (I 1 4) → P (-9 : Int32)) ∧ (¬ (110 : Int32) ≤ (I 1 4) → vp_in (I 1 4) 110 ∧ (P (I 2 (I 1 4).toNatClampNeg)))))
set_option maxHeartbeats 4000000 in
set_option maxRecDepth 100000 in
theorem zq_X4_peek {p : Program} {l : Launch} {e : Env} {s : State} {m : MethodId} {args : Array Value} {below : List Frame} {meth : Method} {c : Code} {D : va_G} {ca : Nat → ClassId} {A : Nat → Prop} {a : Nat → Nat}  {P : Int32 → Prop} {I : zz_I} {L : zz_L}  (X : zz_X p s m meth c cX4_peek RX4 (some .int) 1) (hA : ∀ q, s.heap.size ≤ q → A q)   (h : zp_X4_peek  P I L) : zz_Go p l e ({ frames := 0, cells := 0, slots := 0, locals := 0 } : Room) s m args below meth c 0 0 (MQ below (zz_Qi D ca zz_dC A a (fun r I9 L9 => P r ∧ I9 = I ∧ L9 = L)) args s 0 0 A) D ca zz_dC A 1 0 a [] [(0, .ref (a 1))] I L := by
  obtain ⟨hx, hb, hml, hown, zw, hr, hlocks⟩ := id X
  intro H locs ls hB hl
  unfold zp_X4_peek at h
  refine lv_aload_n hx hb dX4_peek_0 rfl (lv_at hl 0 rfl) ?_
  refine zz_geti hx hb hown zw hB zF_X4_33 zdC_1 rfl dX4_peek_1 ?_
  refine lv_if_lt (tgt := 39) hx hb dX4_peek_4 (by decide) (fun c4 => ?_) (fun c4 => ?_)
  · have h := h.1 c4
    refine lv_bipush (v := (-9 : Int32)) hx hb dX4_peek_39 (by decide) ?_
    exact zz_iret hx hb hr hlocks hB ⟨h, rfl, rfl⟩ dX4_peek_41
  · have h := h.2 c4
    refine lv_aload_n hx hb dX4_peek_7 rfl (lv_at hl 0 rfl) ?_
    refine zz_geti hx hb hown zw hB zF_X4_33 zdC_1 rfl dX4_peek_8 ?_
    refine lv_aload_n hx hb dX4_peek_11 rfl (lv_at hl 0 rfl) ?_
    refine zz_geti hx hb hown zw hB zF_X4_15 zdC_1 rfl dX4_peek_12 ?_
    refine lv_icmp_ge (tgt := 39) hx hb dX4_peek_15 (by decide) (fun c15 => ?_) (fun c15 => ?_)
    · have h := h.1 c15
      refine lv_bipush (v := (-9 : Int32)) hx hb dX4_peek_39 (by decide) ?_
      exact zz_iret hx hb hr hlocks hB ⟨h, rfl, rfl⟩ dX4_peek_41
    · have h := h.2 c15
      refine lv_aload_n hx hb dX4_peek_18 rfl (lv_at hl 0 rfl) ?_
      refine zz_geti hx hb hown zw hB zF_X4_33 zdC_1 rfl dX4_peek_19 ?_
      refine lv_bipush (v := (110 : Int32)) hx hb dX4_peek_22 (by decide) ?_
      refine lv_icmp_ge (tgt := 39) hx hb dX4_peek_24 (by decide) (fun c24 => ?_) (fun c24 => ?_)
      · have h := h.1 c24
        refine lv_bipush (v := (-9 : Int32)) hx hb dX4_peek_39 (by decide) ?_
        exact zz_iret hx hb hr hlocks hB ⟨h, rfl, rfl⟩ dX4_peek_41
      · have h := h.2 c24
        refine lv_aload_n hx hb dX4_peek_27 rfl (lv_at hl 0 rfl) ?_
        refine zz_getr (k' := 2) hx hb hown zw hB zF_X4_9 zdC_1 rfl rfl dX4_peek_28 ?_
        refine lv_aload_n hx hb dX4_peek_31 rfl (lv_at hl 0 rfl) ?_
        refine zz_geti hx hb hown zw hB zF_X4_33 zdC_1 rfl dX4_peek_32 ?_
        obtain ⟨hi35, h⟩ := h
        refine zz_iald hx hb hB zdC_2 hi35 dX4_peek_35 ?_
        refine lv_goto (tgt := 41) hx hb dX4_peek_36 (by decide) ?_
        exact zz_iret hx hb hr hlocks hB ⟨h, rfl, rfl⟩ dX4_peek_41
theorem zc_X4_peek (l : Launch) (D : va_G) (ca : Nat → ClassId) (a : Nat → Nat) (I : zz_I) (L : zz_L) (sz : Nat)  {P : Int32 → Prop}  (h : zp_X4_peek  P I L) : Met l yX4_peek [.code yX4_peek cX4_peek 1 (some .int)] ({ frames := 0, cells := 0, slots := 0, locals := 0 } : Room) (zz_Pre D ca zz_dC [.ref (a 1)] a I L sz) (zz_Qi D ca zz_dC (zz_A ca zz_dC a I L sz) a (fun r I9 L9 => P r ∧ I9 = I ∧ L9 = L)) 0 0 (zz_A ca zz_dC a I L sz) :=
  zz_start (by decide) (Nat.le_of_ble_eq_true rfl) (fun p e s m below meth c X hsz hA => zq_X4_peek X hA  h)
def zp_X4_takeDigit (x1 : Int32) (x2 : Int32) (P : Int32 → zz_I → zz_L → Prop) (I : zz_I) (L : zz_L) : Prop := zp_X4_peek  (fun r1 => ∀ v7 : Int32, v7 = r1 - (48 : Int32) → ((¬ (I 1 5) = 0 → ∀ I27 : zz_I, I27 = zz_up I 1 5 (1 : Int32) → (P x1 I27 L)) ∧ ((I 1 5) = 0 → (v7 < x1 → ∀ I27 : zz_I, I27 = zz_up I 1 5 (1 : Int32) → (P x1 I27 L)) ∧ (¬ v7 < x1 → (v7 ≤ x2 → ∀ I39 : zz_I, I39 = zz_up I 1 4 ((I 1 4) + (1 : Int32)) → (P v7 I39 L)) ∧ (¬ v7 ≤ x2 → ∀ I27 : zz_I, I27 = zz_up I 1 5 (1 : Int32) → (P x1 I27 L)))))) I L
set_option maxHeartbeats 4000000 in
set_option maxRecDepth 100000 in
theorem zq_X4_takeDigit {p : Program} {l : Launch} {e : Env} {s : State} {m : MethodId} {args : Array Value} {below : List Frame} {meth : Method} {c : Code} {D : va_G} {ca : Nat → ClassId} {A : Nat → Prop} {a : Nat → Nat}  {P : Int32 → zz_I → zz_L → Prop} {I : zz_I} {L : zz_L} {x1 : Int32} {x2 : Int32} (X : zz_X p s m meth c cX4_takeDigit RX4 (some .int) 4) (hA : ∀ q, s.heap.size ≤ q → A q)   (h : zp_X4_takeDigit x1 x2 P I L) : zz_Go p l e ({ frames := 1, cells := 0, slots := 0, locals := 20 } : Room) s m args below meth c 0 0 (MQ below (zz_Qi D ca zz_dC A a P) args s 0 0 A) D ca zz_dC A 4 0 a [] [(0, .ref (a 1)), (1, .int x1), (2, .int x2)] I L := by
  obtain ⟨hx, hb, hml, hown, zw, hr, hlocks⟩ := id X
  intro H locs ls hB hl
  unfold zp_X4_takeDigit at h
  refine lv_aload_n hx hb dX4_takeDigit_0 rfl (lv_at hl 0 rfl) ?_
  refine zz_goip hB hA (zz_runV (As := []) (rest := []) hx hb hml hown zw hB zM_X4_67 (zc_X4_peek l D ca a I L H.size h) zdC_1 rfl rfl hl.1 rfl (Nat.le_of_ble_eq_true rfl) rfl rfl ⟨Nat.le_of_ble_eq_true rfl, Nat.le_of_ble_eq_true rfl⟩ dX4_takeDigit_1 ⟨Nat.le_of_ble_eq_true rfl, Nat.le_of_ble_eq_true rfl⟩) (fun r1 H locs h hB => ?_)
  refine lv_bipush (v := (48 : Int32)) hx hb dX4_takeDigit_4 (by decide) ?_
  refine lv_isub hx hb dX4_takeDigit_6 ?_
  refine lv_topi (fun v7 ev7 => ?_)
  have h := h v7 ev7
  refine lv_istore_n (lv' := [(3, .int v7), (0, .ref (a 1)), (1, .int x1), (2, .int x2)]) hx hb dX4_takeDigit_7 rfl hl (by decide) rfl (fun ls hl => ?_)
  refine lv_aload_n hx hb dX4_takeDigit_8 rfl (lv_at hl 1 rfl) ?_
  refine zz_geti hx hb hown zw hB zF_X4_36 zdC_1 rfl dX4_takeDigit_9 ?_
  refine lv_if_ne (tgt := 25) hx hb dX4_takeDigit_12 (by decide) (fun c12 => ?_) (fun c12 => ?_)
  · have h := h.1 c12
    refine lv_aload_n hx hb dX4_takeDigit_25 rfl (lv_at hl 1 rfl) ?_
    refine lv_iconst (v := (1 : Int32)) hx hb dX4_takeDigit_26 (by decide) ?_
    refine zz_putz hx hb hown zw hB zP_X4_36 zz_bool1 zdC_1 rfl dX4_takeDigit_27 (fun H locs hB => ?_)
    obtain ⟨I27, eI27⟩ : ∃ z : zz_I, z = zz_up I 1 5 (1 : Int32) := ⟨_, rfl⟩
    rw [← eI27] at hB
    have h := h I27 eI27
    refine lv_iload_n hx hb dX4_takeDigit_30 rfl (lv_at hl 2 rfl) ?_
    exact zz_iret hx hb hr hlocks hB h dX4_takeDigit_31
  · have h := h.2 c12
    refine lv_iload_n hx hb dX4_takeDigit_15 rfl (lv_at hl 0 rfl) ?_
    refine lv_iload_n hx hb dX4_takeDigit_16 rfl (lv_at hl 2 rfl) ?_
    refine lv_icmp_lt (tgt := 25) hx hb dX4_takeDigit_17 (by decide) (fun c17 => ?_) (fun c17 => ?_)
    · have h := h.1 c17
      refine lv_aload_n hx hb dX4_takeDigit_25 rfl (lv_at hl 1 rfl) ?_
      refine lv_iconst (v := (1 : Int32)) hx hb dX4_takeDigit_26 (by decide) ?_
      refine zz_putz hx hb hown zw hB zP_X4_36 zz_bool1 zdC_1 rfl dX4_takeDigit_27 (fun H locs hB => ?_)
      obtain ⟨I27, eI27⟩ : ∃ z : zz_I, z = zz_up I 1 5 (1 : Int32) := ⟨_, rfl⟩
      rw [← eI27] at hB
      have h := h I27 eI27
      refine lv_iload_n hx hb dX4_takeDigit_30 rfl (lv_at hl 2 rfl) ?_
      exact zz_iret hx hb hr hlocks hB h dX4_takeDigit_31
    · have h := h.2 c17
      refine lv_iload_n hx hb dX4_takeDigit_20 rfl (lv_at hl 0 rfl) ?_
      refine lv_iload_n hx hb dX4_takeDigit_21 rfl (lv_at hl 3 rfl) ?_
      refine lv_icmp_le (tgt := 32) hx hb dX4_takeDigit_22 (by decide) (fun c22 => ?_) (fun c22 => ?_)
      · have h := h.1 c22
        refine lv_aload_n hx hb dX4_takeDigit_32 rfl (lv_at hl 1 rfl) ?_
        refine lv_dup hx hb dX4_takeDigit_33 rfl ?_
        refine zz_geti hx hb hown zw hB zF_X4_33 zdC_1 rfl dX4_takeDigit_34 ?_
        refine lv_iconst (v := (1 : Int32)) hx hb dX4_takeDigit_37 (by decide) ?_
        refine lv_iadd hx hb dX4_takeDigit_38 ?_
        refine zz_puti hx hb hown zw hB zP_X4_33 zdC_1 rfl dX4_takeDigit_39 (fun H locs hB => ?_)
        obtain ⟨I39, eI39⟩ : ∃ z : zz_I, z = zz_up I 1 4 ((I 1 4) + (1 : Int32)) := ⟨_, rfl⟩
        rw [← eI39] at hB
        have h := h I39 eI39
        refine lv_iload_n hx hb dX4_takeDigit_42 rfl (lv_at hl 0 rfl) ?_
        exact zz_iret hx hb hr hlocks hB h dX4_takeDigit_43
      · have h := h.2 c22
        refine lv_aload_n hx hb dX4_takeDigit_25 rfl (lv_at hl 1 rfl) ?_
        refine lv_iconst (v := (1 : Int32)) hx hb dX4_takeDigit_26 (by decide) ?_
        refine zz_putz hx hb hown zw hB zP_X4_36 zz_bool1 zdC_1 rfl dX4_takeDigit_27 (fun H locs hB => ?_)
        obtain ⟨I27, eI27⟩ : ∃ z : zz_I, z = zz_up I 1 5 (1 : Int32) := ⟨_, rfl⟩
        rw [← eI27] at hB
        have h := h I27 eI27
        refine lv_iload_n hx hb dX4_takeDigit_30 rfl (lv_at hl 2 rfl) ?_
        exact zz_iret hx hb hr hlocks hB h dX4_takeDigit_31
theorem zc_X4_takeDigit (l : Launch) (D : va_G) (ca : Nat → ClassId) (a : Nat → Nat) (I : zz_I) (L : zz_L) (sz : Nat) {x1 : Int32} {x2 : Int32} {P : Int32 → zz_I → zz_L → Prop}  (h : zp_X4_takeDigit x1 x2 P I L) : Met l yX4_takeDigit [.code yX4_takeDigit cX4_takeDigit 4 (some .int)] ({ frames := 1, cells := 0, slots := 0, locals := 20 } : Room) (zz_Pre D ca zz_dC [.ref (a 1), .int x1, .int x2] a I L sz) (zz_Qi D ca zz_dC (zz_A ca zz_dC a I L sz) a P) 0 0 (zz_A ca zz_dC a I L sz) :=
  zz_start (by decide) (Nat.le_of_ble_eq_true rfl) (fun p e s m below meth c X hsz hA => zq_X4_takeDigit X hA  h)
def zp_X4_parseWidths_29b (K29 : Int32 → zz_I → zz_L → Prop) (P : zz_I → zz_L → Prop) (x1 : Int32) (I : zz_I) (L : zz_L) : Prop := ((6 : Int32) ≤ x1 → P I L) ∧ (¬ (6 : Int32) ≤ x1 → zp_X4_takeDigit (1 : Int32) (3 : Int32) (fun r46 I46 L46 => vp_in x1 7 ∧ (∀ I49 : zz_I, I49 = zz_up I46 4 x1.toNatClampNeg r46 → (∀ v50 : Int32, v50 = x1 + (1 : Int32) → (K29 v50 I49 L46)))) I L)
set_option maxHeartbeats 4000000 in
set_option maxRecDepth 100000 in
theorem zq_X4_parseWidths_29b {p : Program} {l : Launch} {e : Env} {s : State} {m : MethodId} {args : Array Value} {below : List Frame} {meth : Method} {c : Code} {D : va_G} {ca : Nat → ClassId} {A : Nat → Prop} {a : Nat → Nat} {K29 : Int32 → zz_I → zz_L → Prop} {P : zz_I → zz_L → Prop} {I : zz_I} {L : zz_L} {x1 : Int32} (X : zz_X p s m meth c cX4_parseWidths RX4 none 2) (hA : ∀ q, s.heap.size ≤ q → A q)  (hK29 : ∀ (y1 : Int32) (I8 : zz_I) (L8 : zz_L), K29 y1 I8 L8 → zz_Go p l e ({ frames := 2, cells := 0, slots := 0, locals := 43 } : Room) s m args below meth c 0 0 (MQ below (zz_Qv D ca zz_dC A a P) args s 0 0 A) D ca zz_dC A 2 29 a [] [(0, .ref (a 1)), (1, .int y1)] I8 L8) (h : zp_X4_parseWidths_29b K29 P x1 I L) : zz_Go p l e ({ frames := 2, cells := 0, slots := 0, locals := 43 } : Room) s m args below meth c 0 0 (MQ below (zz_Qv D ca zz_dC A a P) args s 0 0 A) D ca zz_dC A 2 29 a [] [(0, .ref (a 1)), (1, .int x1)] I L := by
  obtain ⟨hx, hb, hml, hown, zw, hr, hlocks⟩ := id X
  intro H locs ls hB hl
  unfold zp_X4_parseWidths_29b at h
  refine lv_iload_n hx hb dX4_parseWidths_29 rfl (lv_at hl 1 rfl) ?_
  refine lv_bipush (v := (6 : Int32)) hx hb dX4_parseWidths_30 (by decide) ?_
  refine lv_icmp_ge (tgt := 56) hx hb dX4_parseWidths_32 (by decide) (fun c32 => ?_) (fun c32 => ?_)
  · have h := h.1 c32
    exact zz_vret hx hb hr hlocks hB h dX4_parseWidths_56
  · have h := h.2 c32
    refine lv_aload_n hx hb dX4_parseWidths_35 rfl (lv_at hl 0 rfl) ?_
    refine zz_getr (k' := 3) hx hb hown zw hB zF_X4_22 zdC_1 rfl rfl dX4_parseWidths_36 ?_
    refine zz_getr (k' := 4) hx hb hown zw hB zF_X4_71 zdC_3 rfl rfl dX4_parseWidths_39 ?_
    refine lv_iload_n hx hb dX4_parseWidths_42 rfl (lv_at hl 1 rfl) ?_
    refine lv_aload_n hx hb dX4_parseWidths_43 rfl (lv_at hl 0 rfl) ?_
    refine lv_iconst (v := (1 : Int32)) hx hb dX4_parseWidths_44 (by decide) ?_
    refine lv_iconst (v := (3 : Int32)) hx hb dX4_parseWidths_45 (by decide) ?_
    refine zz_goi hB hA (zz_runV (As := [.int (1 : Int32), .int (3 : Int32)]) (rest := [.int x1, .ref (a 4)]) hx hb hml hown zw hB zM_X4_74 (zc_X4_takeDigit l D ca a I L H.size h) zdC_1 rfl rfl hl.1 rfl (Nat.le_of_ble_eq_true rfl) rfl rfl ⟨Nat.le_of_ble_eq_true rfl, Nat.le_of_ble_eq_true rfl⟩ dX4_parseWidths_46 ⟨Nat.le_of_ble_eq_true rfl, Nat.le_of_ble_eq_true rfl⟩) (fun r46 I46 L46 H locs h hB => ?_)
    obtain ⟨hi49, h⟩ := h
    refine zz_iast hx hb hB zdC_4 hi49 dX4_parseWidths_49 (fun H locs hB => ?_)
    obtain ⟨I49, eI49⟩ : ∃ z : zz_I, z = zz_up I46 4 x1.toNatClampNeg r46 := ⟨_, rfl⟩
    rw [← eI49] at hB
    have h := h I49 eI49
    obtain ⟨v50, ev50⟩ : ∃ z : Int32, z = x1 + (1 : Int32) := ⟨_, rfl⟩
    have h := h v50 ev50
    refine lv_iinc (v := v50) (lv' := [(1, .int v50), (0, .ref (a 1))]) hx hb dX4_parseWidths_50 hl (k := 1) rfl (by rw [ev50]; rfl) (by decide) rfl (fun ls hl => ?_)
    refine lv_goto (tgt := 29) hx hb dX4_parseWidths_53 (by decide) ?_
    exact hK29 _ _ _ h H locs ls hB (lv_sub hl [1, 0] rfl)
def zp_X4_parseWidths_29  (P : zz_I → zz_L → Prop) (x1 : Int32) (I : zz_I) (L : zz_L) : Prop := ∃ (Inv : Int32 → zz_I → zz_L → Prop) (μ : Int32 → zz_I → zz_L → Nat), Inv x1 I L ∧ ∀ (y1 : Int32) (I8 : zz_I) (L8 : zz_L), Inv y1 I8 L8 → zp_X4_parseWidths_29b  (fun z1 I7 L7 => Inv z1 I7 L7 ∧ μ z1 I7 L7 < μ y1 I8 L8) P y1 I8 L8
set_option maxHeartbeats 4000000 in
set_option maxRecDepth 100000 in
theorem zq_X4_parseWidths_29 {p : Program} {l : Launch} {e : Env} {s : State} {m : MethodId} {args : Array Value} {below : List Frame} {meth : Method} {c : Code} {D : va_G} {ca : Nat → ClassId} {A : Nat → Prop} {a : Nat → Nat}  {P : zz_I → zz_L → Prop} {I : zz_I} {L : zz_L} {x1 : Int32} (X : zz_X p s m meth c cX4_parseWidths RX4 none 2) (hA : ∀ q, s.heap.size ≤ q → A q)   (h : zp_X4_parseWidths_29  P x1 I L) : zz_Go p l e ({ frames := 2, cells := 0, slots := 0, locals := 43 } : Room) s m args below meth c 0 0 (MQ below (zz_Qv D ca zz_dC A a P) args s 0 0 A) D ca zz_dC A 2 29 a [] [(0, .ref (a 1)), (1, .int x1)] I L := by
  unfold zp_X4_parseWidths_29 at h
  obtain ⟨Inv, μ, hv0, hs⟩ := h
  have key : ∀ (n9 : Nat) (y1 : Int32) (I8 : zz_I) (L8 : zz_L), μ y1 I8 L8 < n9 → Inv y1 I8 L8 → zz_Go p l e ({ frames := 2, cells := 0, slots := 0, locals := 43 } : Room) s m args below meth c 0 0 (MQ below (zz_Qv D ca zz_dC A a P) args s 0 0 A) D ca zz_dC A 2 29 a [] [(0, .ref (a 1)), (1, .int y1)] I8 L8 := by
    intro n9
    induction n9 with
    | zero => intro y1 I8 L8 hn; exact absurd hn (Nat.not_lt_zero _)
    | succ n9 ih =>
      intro y1 I8 L8 hn hi
      exact zq_X4_parseWidths_29b (K29 := (fun z1 I7 L7 => Inv z1 I7 L7 ∧ μ z1 I7 L7 < μ y1 I8 L8)) X hA   (fun z1 I7 L7 hz => ih z1 I7 L7 (Nat.lt_of_lt_of_le hz.2 (Nat.le_of_lt_succ hn)) hz.1) (hs y1 I8 L8 hi)
  exact key _ x1 I L (Nat.lt_succ_self _) hv0
def zp_X4_parseWidths  (P : zz_I → zz_L → Prop) (I : zz_I) (L : zz_L) : Prop := zp_X4_peek  (fun r1 => (¬ r1 = (83 : Int32) → ∀ I24 : zz_I, I24 = zz_up I 1 5 (1 : Int32) → (zp_X4_parseWidths_29 P (0 : Int32) I24 L)) ∧ (r1 = (83 : Int32) → ∀ I16 : zz_I, I16 = zz_up I 1 4 ((I 1 4) + (1 : Int32)) → (zp_X4_parseWidths_29 P (0 : Int32) I16 L))) I L
set_option maxHeartbeats 4000000 in
set_option maxRecDepth 100000 in
theorem zq_X4_parseWidths {p : Program} {l : Launch} {e : Env} {s : State} {m : MethodId} {args : Array Value} {below : List Frame} {meth : Method} {c : Code} {D : va_G} {ca : Nat → ClassId} {A : Nat → Prop} {a : Nat → Nat}  {P : zz_I → zz_L → Prop} {I : zz_I} {L : zz_L}  (X : zz_X p s m meth c cX4_parseWidths RX4 none 2) (hA : ∀ q, s.heap.size ≤ q → A q)   (h : zp_X4_parseWidths  P I L) : zz_Go p l e ({ frames := 2, cells := 0, slots := 0, locals := 43 } : Room) s m args below meth c 0 0 (MQ below (zz_Qv D ca zz_dC A a P) args s 0 0 A) D ca zz_dC A 2 0 a [] [(0, .ref (a 1))] I L := by
  obtain ⟨hx, hb, hml, hown, zw, hr, hlocks⟩ := id X
  intro H locs ls hB hl
  unfold zp_X4_parseWidths at h
  refine lv_aload_n hx hb dX4_parseWidths_0 rfl (lv_at hl 0 rfl) ?_
  refine zz_goip hB hA (zz_runV (As := []) (rest := []) hx hb hml hown zw hB zM_X4_67 (zc_X4_peek l D ca a I L H.size h) zdC_1 rfl rfl hl.1 rfl (Nat.le_of_ble_eq_true rfl) rfl rfl ⟨Nat.le_of_ble_eq_true rfl, Nat.le_of_ble_eq_true rfl⟩ dX4_parseWidths_1 ⟨Nat.le_of_ble_eq_true rfl, Nat.le_of_ble_eq_true rfl⟩) (fun r1 H locs h hB => ?_)
  refine lv_bipush (v := (83 : Int32)) hx hb dX4_parseWidths_4 (by decide) ?_
  refine lv_icmp_ne (tgt := 22) hx hb dX4_parseWidths_6 (by decide) (fun c6 => ?_) (fun c6 => ?_)
  · have h := h.1 c6
    refine lv_aload_n hx hb dX4_parseWidths_22 rfl (lv_at hl 0 rfl) ?_
    refine lv_iconst (v := (1 : Int32)) hx hb dX4_parseWidths_23 (by decide) ?_
    refine zz_putz hx hb hown zw hB zP_X4_36 zz_bool1 zdC_1 rfl dX4_parseWidths_24 (fun H locs hB => ?_)
    obtain ⟨I24, eI24⟩ : ∃ z : zz_I, z = zz_up I 1 5 (1 : Int32) := ⟨_, rfl⟩
    rw [← eI24] at hB
    have h := h I24 eI24
    refine lv_iconst (v := (0 : Int32)) hx hb dX4_parseWidths_27 (by decide) ?_
    refine lv_istore_n (lv' := [(1, .int (0 : Int32)), (0, .ref (a 1))]) hx hb dX4_parseWidths_28 rfl hl (by decide) rfl (fun ls hl => ?_)
    exact zq_X4_parseWidths_29 X hA  h H locs ls hB (lv_sub hl [1, 0] rfl)
  · have h := h.2 c6
    refine lv_aload_n hx hb dX4_parseWidths_9 rfl (lv_at hl 0 rfl) ?_
    refine lv_dup hx hb dX4_parseWidths_10 rfl ?_
    refine zz_geti hx hb hown zw hB zF_X4_33 zdC_1 rfl dX4_parseWidths_11 ?_
    refine lv_iconst (v := (1 : Int32)) hx hb dX4_parseWidths_14 (by decide) ?_
    refine lv_iadd hx hb dX4_parseWidths_15 ?_
    refine zz_puti hx hb hown zw hB zP_X4_33 zdC_1 rfl dX4_parseWidths_16 (fun H locs hB => ?_)
    obtain ⟨I16, eI16⟩ : ∃ z : zz_I, z = zz_up I 1 4 ((I 1 4) + (1 : Int32)) := ⟨_, rfl⟩
    rw [← eI16] at hB
    have h := h I16 eI16
    refine lv_goto (tgt := 27) hx hb dX4_parseWidths_19 (by decide) ?_
    refine lv_iconst (v := (0 : Int32)) hx hb dX4_parseWidths_27 (by decide) ?_
    refine lv_istore_n (lv' := [(1, .int (0 : Int32)), (0, .ref (a 1))]) hx hb dX4_parseWidths_28 rfl hl (by decide) rfl (fun ls hl => ?_)
    exact zq_X4_parseWidths_29 X hA  h H locs ls hB (lv_sub hl [1, 0] rfl)
theorem zc_X4_parseWidths (l : Launch) (D : va_G) (ca : Nat → ClassId) (a : Nat → Nat) (I : zz_I) (L : zz_L) (sz : Nat)  {P : zz_I → zz_L → Prop}  (h : zp_X4_parseWidths  P I L) : Met l yX4_parseWidths [.code yX4_parseWidths cX4_parseWidths 2 none] ({ frames := 2, cells := 0, slots := 0, locals := 43 } : Room) (zz_Pre D ca zz_dC [.ref (a 1)] a I L sz) (zz_Qv D ca zz_dC (zz_A ca zz_dC a I L sz) a P) 0 0 (zz_A ca zz_dC a I L sz) :=
  zz_start (by decide) (Nat.le_of_ble_eq_true rfl) (fun p e s m below meth c X hsz hA => zq_X4_parseWidths X hA  h)
def zp_X4_parseWord_115  (P : zz_I → zz_L → Prop) (x1 : Int32) (x2 : Int32) (x3 : Int32) (I : zz_I) (L : zz_L) : Prop := vp_in x1 8 ∧ (∀ I124 : zz_I, I124 = zz_up I 6 x1.toNatClampNeg x2 → (vp_in x1 8 ∧ (∀ I134 : zz_I, I134 = zz_up I124 9 x1.toNatClampNeg x3 → (zp_X4_takeDigit (0 : Int32) (2 : Int32) (fun r146 I146 L146 => vp_in x1 8 ∧ (∀ I149 : zz_I, I149 = zz_up I146 7 x1.toNatClampNeg r146 → (zp_X4_takeDigit (0 : Int32) (2 : Int32) (fun r161 I161 L161 => vp_in x1 8 ∧ (∀ I164 : zz_I, I164 = zz_up I161 8 x1.toNatClampNeg r161 → (zp_X4_takeDigit (1 : Int32) (9 : Int32) (fun r177 I177 L177 => vp_in x1 8 ∧ (∀ I180 : zz_I, I180 = zz_up I177 13 x1.toNatClampNeg r177 → (∀ I188 : zz_I, I188 = zz_up I180 3 6 (x1 + (1 : Int32)) → (P I188 L177)))) I164 L161))) I149 L146))) I134 L))))
set_option maxHeartbeats 4000000 in
set_option maxRecDepth 100000 in
theorem zq_X4_parseWord_115 {p : Program} {l : Launch} {e : Env} {s : State} {m : MethodId} {args : Array Value} {below : List Frame} {meth : Method} {c : Code} {D : va_G} {ca : Nat → ClassId} {A : Nat → Prop} {a : Nat → Nat}  {P : zz_I → zz_L → Prop} {I : zz_I} {L : zz_L} {x1 : Int32} {x2 : Int32} {x3 : Int32} (X : zz_X p s m meth c cX4_parseWord RX4 none 5) (hA : ∀ q, s.heap.size ≤ q → A q)   (h : zp_X4_parseWord_115  P x1 x2 x3 I L) : zz_Go p l e ({ frames := 2, cells := 0, slots := 0, locals := 43 } : Room) s m args below meth c 0 0 (MQ below (zz_Qv D ca zz_dC A a P) args s 0 0 A) D ca zz_dC A 5 115 a [] [(0, .ref (a 1)), (1, .int x1), (2, .int x2), (3, .int x3)] I L := by
  obtain ⟨hx, hb, hml, hown, zw, hr, hlocks⟩ := id X
  intro H locs ls hB hl
  unfold zp_X4_parseWord_115 at h
  refine lv_aload_n hx hb dX4_parseWord_115 rfl (lv_at hl 0 rfl) ?_
  refine zz_getr (k' := 3) hx hb hown zw hB zF_X4_22 zdC_1 rfl rfl dX4_parseWord_116 ?_
  refine zz_getr (k' := 6) hx hb hown zw hB zF_X4_98 zdC_3 rfl rfl dX4_parseWord_119 ?_
  refine lv_iload_n hx hb dX4_parseWord_122 rfl (lv_at hl 1 rfl) ?_
  refine lv_iload_n hx hb dX4_parseWord_123 rfl (lv_at hl 2 rfl) ?_
  obtain ⟨hi124, h⟩ := h
  refine zz_iast hx hb hB zdC_6 hi124 dX4_parseWord_124 (fun H locs hB => ?_)
  obtain ⟨I124, eI124⟩ : ∃ z : zz_I, z = zz_up I 6 x1.toNatClampNeg x2 := ⟨_, rfl⟩
  rw [← eI124] at hB
  have h := h I124 eI124
  refine lv_aload_n hx hb dX4_parseWord_125 rfl (lv_at hl 0 rfl) ?_
  refine zz_getr (k' := 3) hx hb hown zw hB zF_X4_22 zdC_1 rfl rfl dX4_parseWord_126 ?_
  refine zz_getr (k' := 9) hx hb hown zw hB zF_X4_101 zdC_3 rfl rfl dX4_parseWord_129 ?_
  refine lv_iload_n hx hb dX4_parseWord_132 rfl (lv_at hl 1 rfl) ?_
  refine lv_iload_n hx hb dX4_parseWord_133 rfl (lv_at hl 3 rfl) ?_
  obtain ⟨hi134, h⟩ := h
  refine zz_iast hx hb hB zdC_9 hi134 dX4_parseWord_134 (fun H locs hB => ?_)
  obtain ⟨I134, eI134⟩ : ∃ z : zz_I, z = zz_up I124 9 x1.toNatClampNeg x3 := ⟨_, rfl⟩
  rw [← eI134] at hB
  have h := h I134 eI134
  refine lv_aload_n hx hb dX4_parseWord_135 rfl (lv_at hl 0 rfl) ?_
  refine zz_getr (k' := 3) hx hb hown zw hB zF_X4_22 zdC_1 rfl rfl dX4_parseWord_136 ?_
  refine zz_getr (k' := 7) hx hb hown zw hB zF_X4_104 zdC_3 rfl rfl dX4_parseWord_139 ?_
  refine lv_iload_n hx hb dX4_parseWord_142 rfl (lv_at hl 1 rfl) ?_
  refine lv_aload_n hx hb dX4_parseWord_143 rfl (lv_at hl 0 rfl) ?_
  refine lv_iconst (v := (0 : Int32)) hx hb dX4_parseWord_144 (by decide) ?_
  refine lv_iconst (v := (2 : Int32)) hx hb dX4_parseWord_145 (by decide) ?_
  refine zz_goi hB hA (zz_runV (As := [.int (0 : Int32), .int (2 : Int32)]) (rest := [.int x1, .ref (a 7)]) hx hb hml hown zw hB zM_X4_74 (zc_X4_takeDigit l D ca a I134 L H.size h) zdC_1 rfl rfl hl.1 rfl (Nat.le_of_ble_eq_true rfl) rfl rfl ⟨Nat.le_of_ble_eq_true rfl, Nat.le_of_ble_eq_true rfl⟩ dX4_parseWord_146 ⟨Nat.le_of_ble_eq_true rfl, Nat.le_of_ble_eq_true rfl⟩) (fun r146 I146 L146 H locs h hB => ?_)
  obtain ⟨hi149, h⟩ := h
  refine zz_iast hx hb hB zdC_7 hi149 dX4_parseWord_149 (fun H locs hB => ?_)
  obtain ⟨I149, eI149⟩ : ∃ z : zz_I, z = zz_up I146 7 x1.toNatClampNeg r146 := ⟨_, rfl⟩
  rw [← eI149] at hB
  have h := h I149 eI149
  refine lv_aload_n hx hb dX4_parseWord_150 rfl (lv_at hl 0 rfl) ?_
  refine zz_getr (k' := 3) hx hb hown zw hB zF_X4_22 zdC_1 rfl rfl dX4_parseWord_151 ?_
  refine zz_getr (k' := 8) hx hb hown zw hB zF_X4_107 zdC_3 rfl rfl dX4_parseWord_154 ?_
  refine lv_iload_n hx hb dX4_parseWord_157 rfl (lv_at hl 1 rfl) ?_
  refine lv_aload_n hx hb dX4_parseWord_158 rfl (lv_at hl 0 rfl) ?_
  refine lv_iconst (v := (0 : Int32)) hx hb dX4_parseWord_159 (by decide) ?_
  refine lv_iconst (v := (2 : Int32)) hx hb dX4_parseWord_160 (by decide) ?_
  refine zz_goi hB hA (zz_runV (As := [.int (0 : Int32), .int (2 : Int32)]) (rest := [.int x1, .ref (a 8)]) hx hb hml hown zw hB zM_X4_74 (zc_X4_takeDigit l D ca a I149 L146 H.size h) zdC_1 rfl rfl hl.1 rfl (Nat.le_of_ble_eq_true rfl) rfl rfl ⟨Nat.le_of_ble_eq_true rfl, Nat.le_of_ble_eq_true rfl⟩ dX4_parseWord_161 ⟨Nat.le_of_ble_eq_true rfl, Nat.le_of_ble_eq_true rfl⟩) (fun r161 I161 L161 H locs h hB => ?_)
  obtain ⟨hi164, h⟩ := h
  refine zz_iast hx hb hB zdC_8 hi164 dX4_parseWord_164 (fun H locs hB => ?_)
  obtain ⟨I164, eI164⟩ : ∃ z : zz_I, z = zz_up I161 8 x1.toNatClampNeg r161 := ⟨_, rfl⟩
  rw [← eI164] at hB
  have h := h I164 eI164
  refine lv_aload_n hx hb dX4_parseWord_165 rfl (lv_at hl 0 rfl) ?_
  refine zz_getr (k' := 10) hx hb hown zw hB zF_X4_29 zdC_1 rfl rfl dX4_parseWord_166 ?_
  refine zz_getr (k' := 13) hx hb hown zw hB zF_X4_110 zdC_10 rfl rfl dX4_parseWord_169 ?_
  refine lv_iload_n hx hb dX4_parseWord_172 rfl (lv_at hl 1 rfl) ?_
  refine lv_aload_n hx hb dX4_parseWord_173 rfl (lv_at hl 0 rfl) ?_
  refine lv_iconst (v := (1 : Int32)) hx hb dX4_parseWord_174 (by decide) ?_
  refine lv_bipush (v := (9 : Int32)) hx hb dX4_parseWord_175 (by decide) ?_
  refine zz_goi hB hA (zz_runV (As := [.int (1 : Int32), .int (9 : Int32)]) (rest := [.int x1, .ref (a 13)]) hx hb hml hown zw hB zM_X4_74 (zc_X4_takeDigit l D ca a I164 L161 H.size h) zdC_1 rfl rfl hl.1 rfl (Nat.le_of_ble_eq_true rfl) rfl rfl ⟨Nat.le_of_ble_eq_true rfl, Nat.le_of_ble_eq_true rfl⟩ dX4_parseWord_177 ⟨Nat.le_of_ble_eq_true rfl, Nat.le_of_ble_eq_true rfl⟩) (fun r177 I177 L177 H locs h hB => ?_)
  obtain ⟨hi180, h⟩ := h
  refine zz_iast hx hb hB zdC_13 hi180 dX4_parseWord_180 (fun H locs hB => ?_)
  obtain ⟨I180, eI180⟩ : ∃ z : zz_I, z = zz_up I177 13 x1.toNatClampNeg r177 := ⟨_, rfl⟩
  rw [← eI180] at hB
  have h := h I180 eI180
  refine lv_aload_n hx hb dX4_parseWord_181 rfl (lv_at hl 0 rfl) ?_
  refine zz_getr (k' := 3) hx hb hown zw hB zF_X4_22 zdC_1 rfl rfl dX4_parseWord_182 ?_
  refine lv_iload_n hx hb dX4_parseWord_185 rfl (lv_at hl 1 rfl) ?_
  refine lv_iconst (v := (1 : Int32)) hx hb dX4_parseWord_186 (by decide) ?_
  refine lv_iadd hx hb dX4_parseWord_187 ?_
  refine zz_puti hx hb hown zw hB zP_X4_43 zdC_3 rfl dX4_parseWord_188 (fun H locs hB => ?_)
  obtain ⟨I188, eI188⟩ : ∃ z : zz_I, z = zz_up I180 3 6 (x1 + (1 : Int32)) := ⟨_, rfl⟩
  rw [← eI188] at hB
  have h := h I188 eI188
  exact zz_vret hx hb hr hlocks hB h dX4_parseWord_191
def zp_X4_parseWord_105  (P : zz_I → zz_L → Prop) (x1 : Int32) (x2 : Int32) (x3 : Int32) (I : zz_I) (L : zz_L) : Prop := ((2 : Int32) ≤ x2 → zp_X4_parseWord_115 P x1 x2 x3 I L) ∧ (¬ (2 : Int32) ≤ x2 → ∀ I112 : zz_I, I112 = zz_up I 1 5 (1 : Int32) → (zp_X4_parseWord_115 P x1 x2 x3 I112 L))
set_option maxHeartbeats 4000000 in
set_option maxRecDepth 100000 in
theorem zq_X4_parseWord_105 {p : Program} {l : Launch} {e : Env} {s : State} {m : MethodId} {args : Array Value} {below : List Frame} {meth : Method} {c : Code} {D : va_G} {ca : Nat → ClassId} {A : Nat → Prop} {a : Nat → Nat}  {P : zz_I → zz_L → Prop} {I : zz_I} {L : zz_L} {x1 : Int32} {x2 : Int32} {x3 : Int32} (X : zz_X p s m meth c cX4_parseWord RX4 none 5) (hA : ∀ q, s.heap.size ≤ q → A q)   (h : zp_X4_parseWord_105  P x1 x2 x3 I L) : zz_Go p l e ({ frames := 2, cells := 0, slots := 0, locals := 43 } : Room) s m args below meth c 0 0 (MQ below (zz_Qv D ca zz_dC A a P) args s 0 0 A) D ca zz_dC A 5 105 a [] [(0, .ref (a 1)), (1, .int x1), (2, .int x2), (3, .int x3)] I L := by
  obtain ⟨hx, hb, hml, hown, zw, hr, hlocks⟩ := id X
  intro H locs ls hB hl
  unfold zp_X4_parseWord_105 at h
  refine lv_iload_n hx hb dX4_parseWord_105 rfl (lv_at hl 2 rfl) ?_
  refine lv_iconst (v := (2 : Int32)) hx hb dX4_parseWord_106 (by decide) ?_
  refine lv_icmp_ge (tgt := 115) hx hb dX4_parseWord_107 (by decide) (fun c107 => ?_) (fun c107 => ?_)
  · have h := h.1 c107
    exact zq_X4_parseWord_115 X hA  h H locs ls hB (lv_sub hl [0, 1, 2, 3] rfl)
  · have h := h.2 c107
    refine lv_aload_n hx hb dX4_parseWord_110 rfl (lv_at hl 0 rfl) ?_
    refine lv_iconst (v := (1 : Int32)) hx hb dX4_parseWord_111 (by decide) ?_
    refine zz_putz hx hb hown zw hB zP_X4_36 zz_bool1 zdC_1 rfl dX4_parseWord_112 (fun H locs hB => ?_)
    obtain ⟨I112, eI112⟩ : ∃ z : zz_I, z = zz_up I 1 5 (1 : Int32) := ⟨_, rfl⟩
    rw [← eI112] at hB
    have h := h I112 eI112
    exact zq_X4_parseWord_115 X hA  h H locs ls hB (lv_sub hl [0, 1, 2, 3] rfl)
def zp_X4_parseWord_38b (K38 : Int32 → Int32 → zz_I → zz_L → Prop) (P : zz_I → zz_L → Prop) (x1 : Int32) (x2 : Int32) (x3 : Int32) (I : zz_I) (L : zz_L) : Prop := ((5 : Int32) ≤ x2 → zp_X4_parseWord_105 P x1 x2 x3 I L) ∧ (¬ (5 : Int32) ≤ x2 → zp_X4_peek  (fun r44 => zp_X4_isLetter r44 (fun r47 => (r47 = 0 → zp_X4_parseWord_105 P x1 x2 x3 I L) ∧ (¬ r47 = 0 → zp_X4_peek  (fun r54 => ∀ v60 : Int32, v60 = r54 - (97 : Int32) → (vp_in ((x1 * (5 : Int32)) + x2) 40 ∧ (∀ I76 : zz_I, I76 = zz_up I 5 ((x1 * (5 : Int32)) + x2).toNatClampNeg v60 → (zp_X2_widthOf 3 v60 (fun r84 => ∀ v88 : Int32, v88 = x3 + r84 → (∀ v89 : Int32, v89 = x2 + (1 : Int32) → (∀ I99 : zz_I, I99 = zz_up I76 1 4 ((I76 1 4) + (1 : Int32)) → (K38 v89 v88 I99 L)))) I76 L)))) I L)) I L) I L)
set_option maxHeartbeats 4000000 in
set_option maxRecDepth 100000 in
theorem zq_X4_parseWord_38b {p : Program} {l : Launch} {e : Env} {s : State} {m : MethodId} {args : Array Value} {below : List Frame} {meth : Method} {c : Code} {D : va_G} {ca : Nat → ClassId} {A : Nat → Prop} {a : Nat → Nat} {K38 : Int32 → Int32 → zz_I → zz_L → Prop} {P : zz_I → zz_L → Prop} {I : zz_I} {L : zz_L} {x1 : Int32} {x2 : Int32} {x3 : Int32} (X : zz_X p s m meth c cX4_parseWord RX4 none 5) (hA : ∀ q, s.heap.size ≤ q → A q)  (hK38 : ∀ (y2 : Int32) (y3 : Int32) (I8 : zz_I) (L8 : zz_L), K38 y2 y3 I8 L8 → zz_Go p l e ({ frames := 2, cells := 0, slots := 0, locals := 43 } : Room) s m args below meth c 0 0 (MQ below (zz_Qv D ca zz_dC A a P) args s 0 0 A) D ca zz_dC A 5 38 a [] [(0, .ref (a 1)), (1, .int x1), (2, .int y2), (3, .int y3)] I8 L8) (h : zp_X4_parseWord_38b K38 P x1 x2 x3 I L) : zz_Go p l e ({ frames := 2, cells := 0, slots := 0, locals := 43 } : Room) s m args below meth c 0 0 (MQ below (zz_Qv D ca zz_dC A a P) args s 0 0 A) D ca zz_dC A 5 38 a [] [(0, .ref (a 1)), (1, .int x1), (2, .int x2), (3, .int x3)] I L := by
  obtain ⟨hx, hb, hml, hown, zw, hr, hlocks⟩ := id X
  intro H locs ls hB hl
  unfold zp_X4_parseWord_38b at h
  refine lv_iload_n hx hb dX4_parseWord_38 rfl (lv_at hl 2 rfl) ?_
  refine lv_iconst (v := (5 : Int32)) hx hb dX4_parseWord_39 (by decide) ?_
  refine lv_icmp_ge (tgt := 105) hx hb dX4_parseWord_40 (by decide) (fun c40 => ?_) (fun c40 => ?_)
  · have h := h.1 c40
    exact zq_X4_parseWord_105 X hA  h H locs ls hB (lv_sub hl [0, 1, 2, 3] rfl)
  · have h := h.2 c40
    refine lv_aload_n hx hb dX4_parseWord_43 rfl (lv_at hl 0 rfl) ?_
    refine zz_goip hB hA (zz_runV (As := []) (rest := []) hx hb hml hown zw hB zM_X4_67 (zc_X4_peek l D ca a I L H.size h) zdC_1 rfl rfl hl.1 rfl (Nat.le_of_ble_eq_true rfl) rfl rfl ⟨Nat.le_of_ble_eq_true rfl, Nat.le_of_ble_eq_true rfl⟩ dX4_parseWord_44 ⟨Nat.le_of_ble_eq_true rfl, Nat.le_of_ble_eq_true rfl⟩) (fun r44 H locs h hB => ?_)
    refine zz_goip hB hA (zz_runS (As := [.int r44]) (rest := []) hx hb hml hown zw hB zM_X4_87 (zc_X4_isLetter l D ca a I L H.size h) rfl hl.1 rfl (Nat.le_of_ble_eq_true rfl) rfl rfl ⟨Nat.le_of_ble_eq_true rfl, Nat.le_of_ble_eq_true rfl⟩ dX4_parseWord_47 ⟨Nat.le_of_ble_eq_true rfl, Nat.le_of_ble_eq_true rfl⟩) (fun r47 H locs h hB => ?_)
    refine lv_if_eq (tgt := 105) hx hb dX4_parseWord_50 (by decide) (fun c50 => ?_) (fun c50 => ?_)
    · have h := h.1 c50
      exact zq_X4_parseWord_105 X hA  h H locs ls hB (lv_sub hl [0, 1, 2, 3] rfl)
    · have h := h.2 c50
      refine lv_aload_n hx hb dX4_parseWord_53 rfl (lv_at hl 0 rfl) ?_
      refine zz_goip hB hA (zz_runV (As := []) (rest := []) hx hb hml hown zw hB zM_X4_67 (zc_X4_peek l D ca a I L H.size h) zdC_1 rfl rfl hl.1 rfl (Nat.le_of_ble_eq_true rfl) rfl rfl ⟨Nat.le_of_ble_eq_true rfl, Nat.le_of_ble_eq_true rfl⟩ dX4_parseWord_54 ⟨Nat.le_of_ble_eq_true rfl, Nat.le_of_ble_eq_true rfl⟩) (fun r54 H locs h hB => ?_)
      refine lv_bipush (v := (97 : Int32)) hx hb dX4_parseWord_57 (by decide) ?_
      refine lv_isub hx hb dX4_parseWord_59 ?_
      refine lv_topi (fun v60 ev60 => ?_)
      have h := h v60 ev60
      refine lv_istore (lv' := [(4, .int v60), (0, .ref (a 1)), (1, .int x1), (2, .int x2), (3, .int x3)]) hx hb dX4_parseWord_60 hl (by decide) rfl (fun ls hl => ?_)
      refine lv_aload_n hx hb dX4_parseWord_62 rfl (lv_at hl 1 rfl) ?_
      refine zz_getr (k' := 3) hx hb hown zw hB zF_X4_22 zdC_1 rfl rfl dX4_parseWord_63 ?_
      refine zz_getr (k' := 5) hx hb hown zw hB zF_X4_91 zdC_3 rfl rfl dX4_parseWord_66 ?_
      refine lv_iload_n hx hb dX4_parseWord_69 rfl (lv_at hl 2 rfl) ?_
      refine lv_iconst (v := (5 : Int32)) hx hb dX4_parseWord_70 (by decide) ?_
      refine lv_imul hx hb dX4_parseWord_71 ?_
      refine lv_iload_n hx hb dX4_parseWord_72 rfl (lv_at hl 3 rfl) ?_
      refine lv_iadd hx hb dX4_parseWord_73 ?_
      refine lv_iload hx hb dX4_parseWord_74 (lv_at hl 0 rfl) ?_
      obtain ⟨hi76, h⟩ := h
      refine zz_iast hx hb hB zdC_5 hi76 dX4_parseWord_76 (fun H locs hB => ?_)
      obtain ⟨I76, eI76⟩ : ∃ z : zz_I, z = zz_up I 5 ((x1 * (5 : Int32)) + x2).toNatClampNeg v60 := ⟨_, rfl⟩
      rw [← eI76] at hB
      have h := h I76 eI76
      refine lv_iload_n hx hb dX4_parseWord_77 rfl (lv_at hl 4 rfl) ?_
      refine lv_aload_n hx hb dX4_parseWord_78 rfl (lv_at hl 1 rfl) ?_
      refine zz_getr (k' := 3) hx hb hown zw hB zF_X4_22 zdC_1 rfl rfl dX4_parseWord_79 ?_
      refine lv_iload hx hb dX4_parseWord_82 (lv_at hl 0 rfl) ?_
      refine zz_goip hB hA (zz_runV (As := [.int v60]) (rest := [.int x3]) hx hb hml hown zw hB zM_X4_94 (zc_X2_widthOf l D ca a I76 L H.size zz_isX_3 h) zdC_3 rfl rfl hl.1 rfl (Nat.le_of_ble_eq_true rfl) rfl rfl ⟨Nat.le_of_ble_eq_true rfl, Nat.le_of_ble_eq_true rfl⟩ dX4_parseWord_84 ⟨Nat.le_of_ble_eq_true rfl, Nat.le_of_ble_eq_true rfl⟩) (fun r84 H locs h hB => ?_)
      refine lv_iadd hx hb dX4_parseWord_87 ?_
      refine lv_topi (fun v88 ev88 => ?_)
      have h := h v88 ev88
      refine lv_istore_n (lv' := [(3, .int v88), (4, .int v60), (0, .ref (a 1)), (1, .int x1), (2, .int x2)]) hx hb dX4_parseWord_88 rfl hl (by decide) rfl (fun ls hl => ?_)
      obtain ⟨v89, ev89⟩ : ∃ z : Int32, z = x2 + (1 : Int32) := ⟨_, rfl⟩
      have h := h v89 ev89
      refine lv_iinc (v := v89) (lv' := [(2, .int v89), (3, .int v88), (4, .int v60), (0, .ref (a 1)), (1, .int x1)]) hx hb dX4_parseWord_89 hl (k := 4) rfl (by rw [ev89]; rfl) (by decide) rfl (fun ls hl => ?_)
      refine lv_aload_n hx hb dX4_parseWord_92 rfl (lv_at hl 3 rfl) ?_
      refine lv_dup hx hb dX4_parseWord_93 rfl ?_
      refine zz_geti hx hb hown zw hB zF_X4_33 zdC_1 rfl dX4_parseWord_94 ?_
      refine lv_iconst (v := (1 : Int32)) hx hb dX4_parseWord_97 (by decide) ?_
      refine lv_iadd hx hb dX4_parseWord_98 ?_
      refine zz_puti hx hb hown zw hB zP_X4_33 zdC_1 rfl dX4_parseWord_99 (fun H locs hB => ?_)
      obtain ⟨I99, eI99⟩ : ∃ z : zz_I, z = zz_up I76 1 4 ((I76 1 4) + (1 : Int32)) := ⟨_, rfl⟩
      rw [← eI99] at hB
      have h := h I99 eI99
      refine lv_goto (tgt := 38) hx hb dX4_parseWord_102 (by decide) ?_
      exact hK38 _ _ _ _ h H locs ls hB (lv_sub hl [3, 4, 0, 1] rfl)
def zp_X4_parseWord_38  (P : zz_I → zz_L → Prop) (x1 : Int32) (x2 : Int32) (x3 : Int32) (I : zz_I) (L : zz_L) : Prop := ∃ (Inv : Int32 → Int32 → zz_I → zz_L → Prop) (μ : Int32 → Int32 → zz_I → zz_L → Nat), Inv x2 x3 I L ∧ ∀ (y2 : Int32) (y3 : Int32) (I8 : zz_I) (L8 : zz_L), Inv y2 y3 I8 L8 → zp_X4_parseWord_38b  (fun z2 z3 I7 L7 => Inv z2 z3 I7 L7 ∧ μ z2 z3 I7 L7 < μ y2 y3 I8 L8) P x1 y2 y3 I8 L8
set_option maxHeartbeats 4000000 in
set_option maxRecDepth 100000 in
theorem zq_X4_parseWord_38 {p : Program} {l : Launch} {e : Env} {s : State} {m : MethodId} {args : Array Value} {below : List Frame} {meth : Method} {c : Code} {D : va_G} {ca : Nat → ClassId} {A : Nat → Prop} {a : Nat → Nat}  {P : zz_I → zz_L → Prop} {I : zz_I} {L : zz_L} {x1 : Int32} {x2 : Int32} {x3 : Int32} (X : zz_X p s m meth c cX4_parseWord RX4 none 5) (hA : ∀ q, s.heap.size ≤ q → A q)   (h : zp_X4_parseWord_38  P x1 x2 x3 I L) : zz_Go p l e ({ frames := 2, cells := 0, slots := 0, locals := 43 } : Room) s m args below meth c 0 0 (MQ below (zz_Qv D ca zz_dC A a P) args s 0 0 A) D ca zz_dC A 5 38 a [] [(0, .ref (a 1)), (1, .int x1), (2, .int x2), (3, .int x3)] I L := by
  unfold zp_X4_parseWord_38 at h
  obtain ⟨Inv, μ, hv0, hs⟩ := h
  have key : ∀ (n9 : Nat) (y2 : Int32) (y3 : Int32) (I8 : zz_I) (L8 : zz_L), μ y2 y3 I8 L8 < n9 → Inv y2 y3 I8 L8 → zz_Go p l e ({ frames := 2, cells := 0, slots := 0, locals := 43 } : Room) s m args below meth c 0 0 (MQ below (zz_Qv D ca zz_dC A a P) args s 0 0 A) D ca zz_dC A 5 38 a [] [(0, .ref (a 1)), (1, .int x1), (2, .int y2), (3, .int y3)] I8 L8 := by
    intro n9
    induction n9 with
    | zero => intro y2 y3 I8 L8 hn; exact absurd hn (Nat.not_lt_zero _)
    | succ n9 ih =>
      intro y2 y3 I8 L8 hn hi
      exact zq_X4_parseWord_38b (K38 := (fun z2 z3 I7 L7 => Inv z2 z3 I7 L7 ∧ μ z2 z3 I7 L7 < μ y2 y3 I8 L8)) X hA   (fun z2 z3 I7 L7 hz => ih z2 z3 I7 L7 (Nat.lt_of_lt_of_le hz.2 (Nat.le_of_lt_succ hn)) hz.1) (hs y2 y3 I8 L8 hi)
  exact key _ x2 x3 I L (Nat.lt_succ_self _) hv0
def zp_X4_parseWord  (P : zz_I → zz_L → Prop) (I : zz_I) (L : zz_L) : Prop := ∀ v7 : Int32, v7 = I 3 6 → ((v7 < 0 → ∀ I20 : zz_I, I20 = zz_up I 1 5 (1 : Int32) → (P I20 L)) ∧ (¬ v7 < 0 → (v7 < (8 : Int32) → ∀ I31 : zz_I, I31 = zz_up I 1 4 ((I 1 4) + (1 : Int32)) → (zp_X4_parseWord_38 P v7 (0 : Int32) (0 : Int32) I31 L)) ∧ (¬ v7 < (8 : Int32) → ∀ I20 : zz_I, I20 = zz_up I 1 5 (1 : Int32) → (P I20 L))))
set_option maxHeartbeats 4000000 in
set_option maxRecDepth 100000 in
theorem zq_X4_parseWord {p : Program} {l : Launch} {e : Env} {s : State} {m : MethodId} {args : Array Value} {below : List Frame} {meth : Method} {c : Code} {D : va_G} {ca : Nat → ClassId} {A : Nat → Prop} {a : Nat → Nat}  {P : zz_I → zz_L → Prop} {I : zz_I} {L : zz_L}  (X : zz_X p s m meth c cX4_parseWord RX4 none 5) (hA : ∀ q, s.heap.size ≤ q → A q)   (h : zp_X4_parseWord  P I L) : zz_Go p l e ({ frames := 2, cells := 0, slots := 0, locals := 43 } : Room) s m args below meth c 0 0 (MQ below (zz_Qv D ca zz_dC A a P) args s 0 0 A) D ca zz_dC A 5 0 a [] [(0, .ref (a 1))] I L := by
  obtain ⟨hx, hb, hml, hown, zw, hr, hlocks⟩ := id X
  intro H locs ls hB hl
  unfold zp_X4_parseWord at h
  refine lv_aload_n hx hb dX4_parseWord_0 rfl (lv_at hl 0 rfl) ?_
  refine zz_getr (k' := 3) hx hb hown zw hB zF_X4_22 zdC_1 rfl rfl dX4_parseWord_1 ?_
  refine zz_geti hx hb hown zw hB zF_X4_43 zdC_3 rfl dX4_parseWord_4 ?_
  refine lv_topi (fun v7 ev7 => ?_)
  have h := h v7 ev7
  refine lv_istore_n (lv' := [(1, .int v7), (0, .ref (a 1))]) hx hb dX4_parseWord_7 rfl hl (by decide) rfl (fun ls hl => ?_)
  refine lv_iload_n hx hb dX4_parseWord_8 rfl (lv_at hl 0 rfl) ?_
  refine lv_if_lt (tgt := 18) hx hb dX4_parseWord_9 (by decide) (fun c9 => ?_) (fun c9 => ?_)
  · have h := h.1 c9
    refine lv_aload_n hx hb dX4_parseWord_18 rfl (lv_at hl 1 rfl) ?_
    refine lv_iconst (v := (1 : Int32)) hx hb dX4_parseWord_19 (by decide) ?_
    refine zz_putz hx hb hown zw hB zP_X4_36 zz_bool1 zdC_1 rfl dX4_parseWord_20 (fun H locs hB => ?_)
    obtain ⟨I20, eI20⟩ : ∃ z : zz_I, z = zz_up I 1 5 (1 : Int32) := ⟨_, rfl⟩
    rw [← eI20] at hB
    have h := h I20 eI20
    exact zz_vret hx hb hr hlocks hB h dX4_parseWord_23
  · have h := h.2 c9
    refine lv_iload_n hx hb dX4_parseWord_12 rfl (lv_at hl 0 rfl) ?_
    refine lv_bipush (v := (8 : Int32)) hx hb dX4_parseWord_13 (by decide) ?_
    refine lv_icmp_lt (tgt := 24) hx hb dX4_parseWord_15 (by decide) (fun c15 => ?_) (fun c15 => ?_)
    · have h := h.1 c15
      refine lv_aload_n hx hb dX4_parseWord_24 rfl (lv_at hl 1 rfl) ?_
      refine lv_dup hx hb dX4_parseWord_25 rfl ?_
      refine zz_geti hx hb hown zw hB zF_X4_33 zdC_1 rfl dX4_parseWord_26 ?_
      refine lv_iconst (v := (1 : Int32)) hx hb dX4_parseWord_29 (by decide) ?_
      refine lv_iadd hx hb dX4_parseWord_30 ?_
      refine zz_puti hx hb hown zw hB zP_X4_33 zdC_1 rfl dX4_parseWord_31 (fun H locs hB => ?_)
      obtain ⟨I31, eI31⟩ : ∃ z : zz_I, z = zz_up I 1 4 ((I 1 4) + (1 : Int32)) := ⟨_, rfl⟩
      rw [← eI31] at hB
      have h := h I31 eI31
      refine lv_iconst (v := (0 : Int32)) hx hb dX4_parseWord_34 (by decide) ?_
      refine lv_istore_n (lv' := [(2, .int (0 : Int32)), (1, .int v7), (0, .ref (a 1))]) hx hb dX4_parseWord_35 rfl hl (by decide) rfl (fun ls hl => ?_)
      refine lv_iconst (v := (0 : Int32)) hx hb dX4_parseWord_36 (by decide) ?_
      refine lv_istore_n (lv' := [(3, .int (0 : Int32)), (2, .int (0 : Int32)), (1, .int v7), (0, .ref (a 1))]) hx hb dX4_parseWord_37 rfl hl (by decide) rfl (fun ls hl => ?_)
      exact zq_X4_parseWord_38 X hA  h H locs ls hB (lv_sub hl [3, 2, 1, 0] rfl)
    · have h := h.2 c15
      refine lv_aload_n hx hb dX4_parseWord_18 rfl (lv_at hl 1 rfl) ?_
      refine lv_iconst (v := (1 : Int32)) hx hb dX4_parseWord_19 (by decide) ?_
      refine zz_putz hx hb hown zw hB zP_X4_36 zz_bool1 zdC_1 rfl dX4_parseWord_20 (fun H locs hB => ?_)
      obtain ⟨I20, eI20⟩ : ∃ z : zz_I, z = zz_up I 1 5 (1 : Int32) := ⟨_, rfl⟩
      rw [← eI20] at hB
      have h := h I20 eI20
      exact zz_vret hx hb hr hlocks hB h dX4_parseWord_23
theorem zc_X4_parseWord (l : Launch) (D : va_G) (ca : Nat → ClassId) (a : Nat → Nat) (I : zz_I) (L : zz_L) (sz : Nat)  {P : zz_I → zz_L → Prop}  (h : zp_X4_parseWord  P I L) : Met l yX4_parseWord [.code yX4_parseWord cX4_parseWord 5 none] ({ frames := 2, cells := 0, slots := 0, locals := 43 } : Room) (zz_Pre D ca zz_dC [.ref (a 1)] a I L sz) (zz_Qv D ca zz_dC (zz_A ca zz_dC a I L sz) a P) 0 0 (zz_A ca zz_dC a I L sz) :=
  zz_start (by decide) (Nat.le_of_ble_eq_true rfl) (fun p e s m below meth c X hsz hA => zq_X4_parseWord X hA  h)
def zp_X4_refuseLast  (P : zz_I → zz_L → Prop) (I : zz_I) (L : zz_L) : Prop := ∀ I2 : zz_I, I2 = zz_up I 1 5 (1 : Int32) → (∀ I12 : zz_I, I12 = zz_up I2 1 4 ((I2 1 4) - (1 : Int32)) → (P I12 L))
set_option maxHeartbeats 4000000 in
set_option maxRecDepth 100000 in
theorem zq_X4_refuseLast {p : Program} {l : Launch} {e : Env} {s : State} {m : MethodId} {args : Array Value} {below : List Frame} {meth : Method} {c : Code} {D : va_G} {ca : Nat → ClassId} {A : Nat → Prop} {a : Nat → Nat}  {P : zz_I → zz_L → Prop} {I : zz_I} {L : zz_L}  (X : zz_X p s m meth c cX4_refuseLast RX4 none 1) (hA : ∀ q, s.heap.size ≤ q → A q)   (h : zp_X4_refuseLast  P I L) : zz_Go p l e ({ frames := 0, cells := 0, slots := 0, locals := 0 } : Room) s m args below meth c 0 0 (MQ below (zz_Qv D ca zz_dC A a P) args s 0 0 A) D ca zz_dC A 1 0 a [] [(0, .ref (a 1))] I L := by
  obtain ⟨hx, hb, hml, hown, zw, hr, hlocks⟩ := id X
  intro H locs ls hB hl
  unfold zp_X4_refuseLast at h
  refine lv_aload_n hx hb dX4_refuseLast_0 rfl (lv_at hl 0 rfl) ?_
  refine lv_iconst (v := (1 : Int32)) hx hb dX4_refuseLast_1 (by decide) ?_
  refine zz_putz hx hb hown zw hB zP_X4_36 zz_bool1 zdC_1 rfl dX4_refuseLast_2 (fun H locs hB => ?_)
  obtain ⟨I2, eI2⟩ : ∃ z : zz_I, z = zz_up I 1 5 (1 : Int32) := ⟨_, rfl⟩
  rw [← eI2] at hB
  have h := h I2 eI2
  refine lv_aload_n hx hb dX4_refuseLast_5 rfl (lv_at hl 0 rfl) ?_
  refine lv_dup hx hb dX4_refuseLast_6 rfl ?_
  refine zz_geti hx hb hown zw hB zF_X4_33 zdC_1 rfl dX4_refuseLast_7 ?_
  refine lv_iconst (v := (1 : Int32)) hx hb dX4_refuseLast_10 (by decide) ?_
  refine lv_isub hx hb dX4_refuseLast_11 ?_
  refine zz_puti hx hb hown zw hB zP_X4_33 zdC_1 rfl dX4_refuseLast_12 (fun H locs hB => ?_)
  obtain ⟨I12, eI12⟩ : ∃ z : zz_I, z = zz_up I2 1 4 ((I2 1 4) - (1 : Int32)) := ⟨_, rfl⟩
  rw [← eI12] at hB
  have h := h I12 eI12
  exact zz_vret hx hb hr hlocks hB h dX4_refuseLast_15
theorem zc_X4_refuseLast (l : Launch) (D : va_G) (ca : Nat → ClassId) (a : Nat → Nat) (I : zz_I) (L : zz_L) (sz : Nat)  {P : zz_I → zz_L → Prop}  (h : zp_X4_refuseLast  P I L) : Met l yX4_refuseLast [.code yX4_refuseLast cX4_refuseLast 1 none] ({ frames := 0, cells := 0, slots := 0, locals := 0 } : Room) (zz_Pre D ca zz_dC [.ref (a 1)] a I L sz) (zz_Qv D ca zz_dC (zz_A ca zz_dC a I L sz) a P) 0 0 (zz_A ca zz_dC a I L sz) :=
  zz_start (by decide) (Nat.le_of_ble_eq_true rfl) (fun p e s m below meth c X hsz hA => zq_X4_refuseLast X hA  h)
def zp_X7_isKind (x0 : Int32) (P : Int32 → Prop) (I : zz_I) (L : zz_L) : Prop := (x0 < 0 → P (0 : Int32)) ∧ (¬ x0 < 0 → ((3 : Int32) ≤ x0 → P (0 : Int32)) ∧ (¬ (3 : Int32) ≤ x0 → P (1 : Int32)))
set_option maxHeartbeats 4000000 in
set_option maxRecDepth 100000 in
theorem zq_X7_isKind {p : Program} {l : Launch} {e : Env} {s : State} {m : MethodId} {args : Array Value} {below : List Frame} {meth : Method} {c : Code} {D : va_G} {ca : Nat → ClassId} {A : Nat → Prop} {a : Nat → Nat}  {P : Int32 → Prop} {I : zz_I} {L : zz_L} {x0 : Int32} (X : zz_X p s m meth c cX7_isKind RX7 (some .boolean) 1) (hA : ∀ q, s.heap.size ≤ q → A q)   (h : zp_X7_isKind x0 P I L) : zz_Go p l e ({ frames := 0, cells := 0, slots := 0, locals := 0 } : Room) s m args below meth c 0 0 (MQ below (zz_Qi D ca zz_dC A a (fun r I9 L9 => P r ∧ I9 = I ∧ L9 = L)) args s 0 0 A) D ca zz_dC A 1 0 a [] [(0, .int x0)] I L := by
  obtain ⟨hx, hb, hml, hown, zw, hr, hlocks⟩ := id X
  intro H locs ls hB hl
  unfold zp_X7_isKind at h
  refine lv_iload_n hx hb dX7_isKind_0 rfl (lv_at hl 0 rfl) ?_
  refine lv_if_lt (tgt := 13) hx hb dX7_isKind_1 (by decide) (fun c1 => ?_) (fun c1 => ?_)
  · have h := h.1 c1
    refine lv_iconst (v := (0 : Int32)) hx hb dX7_isKind_13 (by decide) ?_
    exact zz_zret hx hb hr hlocks zz_bool0 hB ⟨h, rfl, rfl⟩ dX7_isKind_14
  · have h := h.2 c1
    refine lv_iload_n hx hb dX7_isKind_4 rfl (lv_at hl 0 rfl) ?_
    refine lv_iconst (v := (3 : Int32)) hx hb dX7_isKind_5 (by decide) ?_
    refine lv_icmp_ge (tgt := 13) hx hb dX7_isKind_6 (by decide) (fun c6 => ?_) (fun c6 => ?_)
    · have h := h.1 c6
      refine lv_iconst (v := (0 : Int32)) hx hb dX7_isKind_13 (by decide) ?_
      exact zz_zret hx hb hr hlocks zz_bool0 hB ⟨h, rfl, rfl⟩ dX7_isKind_14
    · have h := h.2 c6
      refine lv_iconst (v := (1 : Int32)) hx hb dX7_isKind_9 (by decide) ?_
      refine lv_goto (tgt := 14) hx hb dX7_isKind_10 (by decide) ?_
      exact zz_zret hx hb hr hlocks zz_bool1 hB ⟨h, rfl, rfl⟩ dX7_isKind_14
theorem zc_X7_isKind (l : Launch) (D : va_G) (ca : Nat → ClassId) (a : Nat → Nat) (I : zz_I) (L : zz_L) (sz : Nat) {x0 : Int32} {P : Int32 → Prop}  (h : zp_X7_isKind x0 P I L) : Met l yX7_isKind [.code yX7_isKind cX7_isKind 1 (some .boolean)] ({ frames := 0, cells := 0, slots := 0, locals := 0 } : Room) (zz_Pre D ca zz_dC [.int x0] a I L sz) (zz_Qi D ca zz_dC (zz_A ca zz_dC a I L sz) a (fun r I9 L9 => P r ∧ I9 = I ∧ L9 = L)) 0 0 (zz_A ca zz_dC a I L sz) :=
  zz_start (by decide) (Nat.le_of_ble_eq_true rfl) (fun p e s m below meth c X hsz hA => zq_X7_isKind X hA  h)
def zp_X6_changeRule (k0 : Nat) (x1 : Int32) (x2 : Int32) (x3 : Int32) (P : Int32 → zz_I → zz_L → Prop) (I : zz_I) (L : zz_L) : Prop := zp_X7_isKind x1 (fun r1 => (r1 = 0 → P (-2 : Int32) I L) ∧ (¬ r1 = 0 → zp_X7_isKind x2 (fun r8 => (r8 = 0 → P (-2 : Int32) I L) ∧ (¬ r8 = 0 → (x3 < 0 → P (-2 : Int32) I L) ∧ (¬ x3 < 0 → (x3 ≤ (2 : Int32) → vp_in ((x1 * (3 : Int32)) + x2) 9 ∧ (∀ v36 : Int32, v36 = I (k0 + 2) ((x1 * (3 : Int32)) + x2).toNatClampNeg → (vp_in ((x1 * (3 : Int32)) + x2) 9 ∧ (∀ I48 : zz_I, I48 = zz_up I (k0 + 2) ((x1 * (3 : Int32)) + x2).toNatClampNeg x3 → (P v36 I48 L))))) ∧ (¬ x3 ≤ (2 : Int32) → P (-2 : Int32) I L)))) I L)) I L
set_option maxHeartbeats 4000000 in
set_option maxRecDepth 100000 in
theorem zq_X6_changeRule {p : Program} {l : Launch} {e : Env} {s : State} {m : MethodId} {args : Array Value} {below : List Frame} {meth : Method} {c : Code} {D : va_G} {ca : Nat → ClassId} {A : Nat → Prop} {a : Nat → Nat}  {P : Int32 → zz_I → zz_L → Prop} {I : zz_I} {L : zz_L} {k0 : Nat} {x1 : Int32} {x2 : Int32} {x3 : Int32} (X : zz_X p s m meth c cX6_changeRule RX6 (some .int) 5) (hA : ∀ q, s.heap.size ≤ q → A q) (hk0 : zz_isT k0)  (h : zp_X6_changeRule k0 x1 x2 x3 P I L) : zz_Go p l e ({ frames := 1, cells := 0, slots := 0, locals := 20 } : Room) s m args below meth c 0 0 (MQ below (zz_Qi D ca zz_dC A a P) args s 0 0 A) D ca zz_dC A 5 0 a [] [(0, .ref (a k0)), (1, .int x1), (2, .int x2), (3, .int x3)] I L := by
  obtain ⟨hx, hb, hml, hown, zw, hr, hlocks⟩ := id X
  intro H locs ls hB hl
  unfold zp_X6_changeRule at h
  refine lv_iload_n hx hb dX6_changeRule_0 rfl (lv_at hl 1 rfl) ?_
  refine zz_goip hB hA (zz_runS (As := [.int x1]) (rest := []) hx hb hml hown zw hB zM_X6_79 (zc_X7_isKind l D ca a I L H.size h) rfl hl.1 rfl (Nat.le_of_ble_eq_true rfl) rfl rfl ⟨Nat.le_of_ble_eq_true rfl, Nat.le_of_ble_eq_true rfl⟩ dX6_changeRule_1 ⟨Nat.le_of_ble_eq_true rfl, Nat.le_of_ble_eq_true rfl⟩) (fun r1 H locs h hB => ?_)
  refine lv_if_eq (tgt := 23) hx hb dX6_changeRule_4 (by decide) (fun c4 => ?_) (fun c4 => ?_)
  · have h := h.1 c4
    refine lv_bipush (v := (-2 : Int32)) hx hb dX6_changeRule_23 (by decide) ?_
    exact zz_iret hx hb hr hlocks hB h dX6_changeRule_25
  · have h := h.2 c4
    refine lv_iload_n hx hb dX6_changeRule_7 rfl (lv_at hl 2 rfl) ?_
    refine zz_goip hB hA (zz_runS (As := [.int x2]) (rest := []) hx hb hml hown zw hB zM_X6_79 (zc_X7_isKind l D ca a I L H.size h) rfl hl.1 rfl (Nat.le_of_ble_eq_true rfl) rfl rfl ⟨Nat.le_of_ble_eq_true rfl, Nat.le_of_ble_eq_true rfl⟩ dX6_changeRule_8 ⟨Nat.le_of_ble_eq_true rfl, Nat.le_of_ble_eq_true rfl⟩) (fun r8 H locs h hB => ?_)
    refine lv_if_eq (tgt := 23) hx hb dX6_changeRule_11 (by decide) (fun c11 => ?_) (fun c11 => ?_)
    · have h := h.1 c11
      refine lv_bipush (v := (-2 : Int32)) hx hb dX6_changeRule_23 (by decide) ?_
      exact zz_iret hx hb hr hlocks hB h dX6_changeRule_25
    · have h := h.2 c11
      refine lv_iload_n hx hb dX6_changeRule_14 rfl (lv_at hl 3 rfl) ?_
      refine lv_if_lt (tgt := 23) hx hb dX6_changeRule_15 (by decide) (fun c15 => ?_) (fun c15 => ?_)
      · have h := h.1 c15
        refine lv_bipush (v := (-2 : Int32)) hx hb dX6_changeRule_23 (by decide) ?_
        exact zz_iret hx hb hr hlocks hB h dX6_changeRule_25
      · have h := h.2 c15
        refine lv_iload_n hx hb dX6_changeRule_18 rfl (lv_at hl 3 rfl) ?_
        refine lv_iconst (v := (2 : Int32)) hx hb dX6_changeRule_19 (by decide) ?_
        refine lv_icmp_le (tgt := 26) hx hb dX6_changeRule_20 (by decide) (fun c20 => ?_) (fun c20 => ?_)
        · have h := h.1 c20
          refine lv_aload_n hx hb dX6_changeRule_26 rfl (lv_at hl 0 rfl) ?_
          refine zz_getr (k' := k0 + 2) hx hb hown zw hB zF_X6_15 hk0.1 rfl rfl dX6_changeRule_27 ?_
          refine lv_iload_n hx hb dX6_changeRule_30 rfl (lv_at hl 1 rfl) ?_
          refine lv_iconst (v := (3 : Int32)) hx hb dX6_changeRule_31 (by decide) ?_
          refine lv_imul hx hb dX6_changeRule_32 ?_
          refine lv_iload_n hx hb dX6_changeRule_33 rfl (lv_at hl 2 rfl) ?_
          refine lv_iadd hx hb dX6_changeRule_34 ?_
          obtain ⟨hi35, h⟩ := h
          refine zz_iald hx hb hB hk0.2.2.1 hi35 dX6_changeRule_35 ?_
          refine lv_topi (fun v36 ev36 => ?_)
          have h := h v36 ev36
          refine lv_istore (lv' := [(4, .int v36), (0, .ref (a k0)), (1, .int x1), (2, .int x2), (3, .int x3)]) hx hb dX6_changeRule_36 hl (by decide) rfl (fun ls hl => ?_)
          refine lv_aload_n hx hb dX6_changeRule_38 rfl (lv_at hl 1 rfl) ?_
          refine zz_getr (k' := k0 + 2) hx hb hown zw hB zF_X6_15 hk0.1 rfl rfl dX6_changeRule_39 ?_
          refine lv_iload_n hx hb dX6_changeRule_42 rfl (lv_at hl 2 rfl) ?_
          refine lv_iconst (v := (3 : Int32)) hx hb dX6_changeRule_43 (by decide) ?_
          refine lv_imul hx hb dX6_changeRule_44 ?_
          refine lv_iload_n hx hb dX6_changeRule_45 rfl (lv_at hl 3 rfl) ?_
          refine lv_iadd hx hb dX6_changeRule_46 ?_
          refine lv_iload_n hx hb dX6_changeRule_47 rfl (lv_at hl 4 rfl) ?_
          obtain ⟨hi48, h⟩ := h
          refine zz_iast hx hb hB hk0.2.2.1 hi48 dX6_changeRule_48 (fun H locs hB => ?_)
          obtain ⟨I48, eI48⟩ : ∃ z : zz_I, z = zz_up I (k0 + 2) ((x1 * (3 : Int32)) + x2).toNatClampNeg x3 := ⟨_, rfl⟩
          rw [← eI48] at hB
          have h := h I48 eI48
          refine lv_iload hx hb dX6_changeRule_49 (lv_at hl 0 rfl) ?_
          exact zz_iret hx hb hr hlocks hB h dX6_changeRule_51
        · have h := h.2 c20
          refine lv_bipush (v := (-2 : Int32)) hx hb dX6_changeRule_23 (by decide) ?_
          exact zz_iret hx hb hr hlocks hB h dX6_changeRule_25
theorem zc_X6_changeRule (l : Launch) (D : va_G) (ca : Nat → ClassId) (a : Nat → Nat) (I : zz_I) (L : zz_L) (sz : Nat) {k0 : Nat} {x1 : Int32} {x2 : Int32} {x3 : Int32} {P : Int32 → zz_I → zz_L → Prop} (hk0 : zz_isT k0) (h : zp_X6_changeRule k0 x1 x2 x3 P I L) : Met l yX6_changeRule [.code yX6_changeRule cX6_changeRule 5 (some .int)] ({ frames := 1, cells := 0, slots := 0, locals := 20 } : Room) (zz_Pre D ca zz_dC [.ref (a k0), .int x1, .int x2, .int x3] a I L sz) (zz_Qi D ca zz_dC (zz_A ca zz_dC a I L sz) a P) 0 0 (zz_A ca zz_dC a I L sz) :=
  zz_start (by decide) (Nat.le_of_ble_eq_true rfl) (fun p e s m below meth c X hsz hA => zq_X6_changeRule X hA hk0 h)
def zp_X4_parseRule_102  (P : zz_I → zz_L → Prop) (x2 : Int32) (x4 : Int32) (x5 : Int32) (I : zz_I) (L : zz_L) : Prop := zp_X4_takeDigit (0 : Int32) (2 : Int32) (fun r105 I105 L105 => zp_X6_changeRule 10 x2 x4 r105 (fun r119 I119 L119 => ∀ I131 : zz_I, I131 = zz_up I119 1 6 ((I119 1 6) ||| x5) → (P I131 L119)) I105 L105) I L
set_option maxHeartbeats 4000000 in
set_option maxRecDepth 100000 in
theorem zq_X4_parseRule_102 {p : Program} {l : Launch} {e : Env} {s : State} {m : MethodId} {args : Array Value} {below : List Frame} {meth : Method} {c : Code} {D : va_G} {ca : Nat → ClassId} {A : Nat → Prop} {a : Nat → Nat}  {P : zz_I → zz_L → Prop} {I : zz_I} {L : zz_L} {x2 : Int32} {x4 : Int32} {x5 : Int32} (X : zz_X p s m meth c cX4_parseRule RX4 none 7) (hA : ∀ q, s.heap.size ≤ q → A q)   (h : zp_X4_parseRule_102  P x2 x4 x5 I L) : zz_Go p l e ({ frames := 2, cells := 0, slots := 0, locals := 44 } : Room) s m args below meth c 0 0 (MQ below (zz_Qv D ca zz_dC A a P) args s 0 0 A) D ca zz_dC A 7 102 a [] [(0, .ref (a 1)), (2, .int x2), (4, .int x4), (5, .int x5)] I L := by
  obtain ⟨hx, hb, hml, hown, zw, hr, hlocks⟩ := id X
  intro H locs ls hB hl
  unfold zp_X4_parseRule_102 at h
  refine lv_aload_n hx hb dX4_parseRule_102 rfl (lv_at hl 0 rfl) ?_
  refine lv_iconst (v := (0 : Int32)) hx hb dX4_parseRule_103 (by decide) ?_
  refine lv_iconst (v := (2 : Int32)) hx hb dX4_parseRule_104 (by decide) ?_
  refine zz_goi hB hA (zz_runV (As := [.int (0 : Int32), .int (2 : Int32)]) (rest := []) hx hb hml hown zw hB zM_X4_74 (zc_X4_takeDigit l D ca a I L H.size h) zdC_1 rfl rfl hl.1 rfl (Nat.le_of_ble_eq_true rfl) rfl rfl ⟨Nat.le_of_ble_eq_true rfl, Nat.le_of_ble_eq_true rfl⟩ dX4_parseRule_105 ⟨Nat.le_of_ble_eq_true rfl, Nat.le_of_ble_eq_true rfl⟩) (fun r105 I105 L105 H locs h hB => ?_)
  refine lv_istore (lv' := [(6, .int r105), (0, .ref (a 1)), (2, .int x2), (4, .int x4), (5, .int x5)]) hx hb dX4_parseRule_108 hl (by decide) rfl (fun ls hl => ?_)
  refine lv_aload_n hx hb dX4_parseRule_110 rfl (lv_at hl 1 rfl) ?_
  refine zz_getr (k' := 10) hx hb hown zw hB zF_X4_29 zdC_1 rfl rfl dX4_parseRule_111 ?_
  refine lv_iload_n hx hb dX4_parseRule_114 rfl (lv_at hl 2 rfl) ?_
  refine lv_iload hx hb dX4_parseRule_115 (lv_at hl 3 rfl) ?_
  refine lv_iload hx hb dX4_parseRule_117 (lv_at hl 0 rfl) ?_
  refine zz_goi hB hA (zz_runV (As := [.int x2, .int x4, .int r105]) (rest := []) hx hb hml hown zw hB zM_X4_116 (zc_X6_changeRule l D ca a I105 L105 H.size zz_isT_10 h) zdC_10 rfl rfl hl.1 rfl (Nat.le_of_ble_eq_true rfl) rfl rfl ⟨Nat.le_of_ble_eq_true rfl, Nat.le_of_ble_eq_true rfl⟩ dX4_parseRule_119 ⟨Nat.le_of_ble_eq_true rfl, Nat.le_of_ble_eq_true rfl⟩) (fun r119 I119 L119 H locs h hB => ?_)
  refine lv_pop hx hb dX4_parseRule_122 rfl ?_
  refine lv_aload_n hx hb dX4_parseRule_123 rfl (lv_at hl 1 rfl) ?_
  refine lv_dup hx hb dX4_parseRule_124 rfl ?_
  refine zz_geti hx hb hown zw hB zF_X4_40 zdC_1 rfl dX4_parseRule_125 ?_
  refine lv_iload hx hb dX4_parseRule_128 (lv_at hl 4 rfl) ?_
  refine lv_ior hx hb dX4_parseRule_130 ?_
  refine zz_puti hx hb hown zw hB zP_X4_40 zdC_1 rfl dX4_parseRule_131 (fun H locs hB => ?_)
  obtain ⟨I131, eI131⟩ : ∃ z : zz_I, z = zz_up I119 1 6 ((I119 1 6) ||| x5) := ⟨_, rfl⟩
  rw [← eI131] at hB
  have h := h I131 eI131
  exact zz_vret hx hb hr hlocks hB h dX4_parseRule_134
def zp_X4_parseRule_63  (P : zz_I → zz_L → Prop) (x2 : Int32) (I : zz_I) (L : zz_L) : Prop := zp_X4_takeDigit (0 : Int32) (2 : Int32) (fun r66 I66 L66 => ∀ v79 : Int32, v79 = (1 : Int32) <<< (((x2 * (3 : Int32)) + r66) &&& 31) → ((¬ (I66 1 5) = 0 → zp_X4_parseRule_102 P x2 r66 v79 I66 L66) ∧ ((I66 1 5) = 0 → (((I66 1 6) &&& v79) = 0 → zp_X4_parseRule_102 P x2 r66 v79 I66 L66) ∧ (¬ ((I66 1 6) &&& v79) = 0 → zp_X4_refuseLast  (fun I99 L99 => zp_X4_parseRule_102 P x2 r66 v79 I99 L99) I66 L66)))) I L
set_option maxHeartbeats 4000000 in
set_option maxRecDepth 100000 in
theorem zq_X4_parseRule_63 {p : Program} {l : Launch} {e : Env} {s : State} {m : MethodId} {args : Array Value} {below : List Frame} {meth : Method} {c : Code} {D : va_G} {ca : Nat → ClassId} {A : Nat → Prop} {a : Nat → Nat}  {P : zz_I → zz_L → Prop} {I : zz_I} {L : zz_L} {x2 : Int32} (X : zz_X p s m meth c cX4_parseRule RX4 none 7) (hA : ∀ q, s.heap.size ≤ q → A q)   (h : zp_X4_parseRule_63  P x2 I L) : zz_Go p l e ({ frames := 2, cells := 0, slots := 0, locals := 44 } : Room) s m args below meth c 0 0 (MQ below (zz_Qv D ca zz_dC A a P) args s 0 0 A) D ca zz_dC A 7 63 a [] [(0, .ref (a 1)), (2, .int x2)] I L := by
  obtain ⟨hx, hb, hml, hown, zw, hr, hlocks⟩ := id X
  intro H locs ls hB hl
  unfold zp_X4_parseRule_63 at h
  refine lv_aload_n hx hb dX4_parseRule_63 rfl (lv_at hl 0 rfl) ?_
  refine lv_iconst (v := (0 : Int32)) hx hb dX4_parseRule_64 (by decide) ?_
  refine lv_iconst (v := (2 : Int32)) hx hb dX4_parseRule_65 (by decide) ?_
  refine zz_goi hB hA (zz_runV (As := [.int (0 : Int32), .int (2 : Int32)]) (rest := []) hx hb hml hown zw hB zM_X4_74 (zc_X4_takeDigit l D ca a I L H.size h) zdC_1 rfl rfl hl.1 rfl (Nat.le_of_ble_eq_true rfl) rfl rfl ⟨Nat.le_of_ble_eq_true rfl, Nat.le_of_ble_eq_true rfl⟩ dX4_parseRule_66 ⟨Nat.le_of_ble_eq_true rfl, Nat.le_of_ble_eq_true rfl⟩) (fun r66 I66 L66 H locs h hB => ?_)
  refine lv_istore (lv' := [(4, .int r66), (0, .ref (a 1)), (2, .int x2)]) hx hb dX4_parseRule_69 hl (by decide) rfl (fun ls hl => ?_)
  refine lv_iconst (v := (1 : Int32)) hx hb dX4_parseRule_71 (by decide) ?_
  refine lv_iload_n hx hb dX4_parseRule_72 rfl (lv_at hl 2 rfl) ?_
  refine lv_iconst (v := (3 : Int32)) hx hb dX4_parseRule_73 (by decide) ?_
  refine lv_imul hx hb dX4_parseRule_74 ?_
  refine lv_iload hx hb dX4_parseRule_75 (lv_at hl 0 rfl) ?_
  refine lv_iadd hx hb dX4_parseRule_77 ?_
  refine lv_ishl hx hb dX4_parseRule_78 ?_
  refine lv_topi (fun v79 ev79 => ?_)
  have h := h v79 ev79
  refine lv_istore (lv' := [(5, .int v79), (4, .int r66), (0, .ref (a 1)), (2, .int x2)]) hx hb dX4_parseRule_79 hl (by decide) rfl (fun ls hl => ?_)
  refine lv_aload_n hx hb dX4_parseRule_81 rfl (lv_at hl 2 rfl) ?_
  refine zz_geti hx hb hown zw hB zF_X4_36 zdC_1 rfl dX4_parseRule_82 ?_
  refine lv_if_ne (tgt := 102) hx hb dX4_parseRule_85 (by decide) (fun c85 => ?_) (fun c85 => ?_)
  · have h := h.1 c85
    exact zq_X4_parseRule_102 X hA  h H locs ls hB (lv_sub hl [2, 3, 1, 0] rfl)
  · have h := h.2 c85
    refine lv_aload_n hx hb dX4_parseRule_88 rfl (lv_at hl 2 rfl) ?_
    refine zz_geti hx hb hown zw hB zF_X4_40 zdC_1 rfl dX4_parseRule_89 ?_
    refine lv_iload hx hb dX4_parseRule_92 (lv_at hl 0 rfl) ?_
    refine lv_iand hx hb dX4_parseRule_94 ?_
    refine lv_if_eq (tgt := 102) hx hb dX4_parseRule_95 (by decide) (fun c95 => ?_) (fun c95 => ?_)
    · have h := h.1 c95
      exact zq_X4_parseRule_102 X hA  h H locs ls hB (lv_sub hl [2, 3, 1, 0] rfl)
    · have h := h.2 c95
      refine lv_aload_n hx hb dX4_parseRule_98 rfl (lv_at hl 2 rfl) ?_
      refine zz_gov hB hA (zz_runV (As := []) (rest := []) hx hb hml hown zw hB zM_X4_113 (zc_X4_refuseLast l D ca a I66 L66 H.size h) zdC_1 rfl rfl hl.1 rfl (Nat.le_of_ble_eq_true rfl) rfl rfl ⟨Nat.le_of_ble_eq_true rfl, Nat.le_of_ble_eq_true rfl⟩ dX4_parseRule_99 ⟨Nat.le_of_ble_eq_true rfl, Nat.le_of_ble_eq_true rfl⟩) (fun I99 L99 H locs h hB => ?_)
      exact zq_X4_parseRule_102 X hA  h H locs ls hB (lv_sub hl [2, 3, 1, 0] rfl)
def zp_X4_parseRule  (P : zz_I → zz_L → Prop) (I : zz_I) (L : zz_L) : Prop := (¬ (I 1 6) = (511 : Int32) → ∀ I25 : zz_I, I25 = zz_up I 1 4 ((I 1 4) + (1 : Int32)) → (zp_X4_takeDigit (0 : Int32) (2 : Int32) (fun r31 I31 L31 => (¬ (I31 1 5) = 0 → zp_X4_parseRule_63 P r31 I31 L31) ∧ ((I31 1 5) = 0 → (¬ (((I31 1 6) >>> ((r31 * (3 : Int32)) &&& 31)) &&& (7 : Int32)) = (7 : Int32) → zp_X4_parseRule_63 P r31 I31 L31) ∧ ((((I31 1 6) >>> ((r31 * (3 : Int32)) &&& 31)) &&& (7 : Int32)) = (7 : Int32) → zp_X4_refuseLast  (fun I60 L60 => zp_X4_parseRule_63 P r31 I60 L60) I31 L31))) I25 L)) ∧ ((I 1 6) = (511 : Int32) → ∀ I14 : zz_I, I14 = zz_up I 1 5 (1 : Int32) → (P I14 L))
set_option maxHeartbeats 4000000 in
set_option maxRecDepth 100000 in
theorem zq_X4_parseRule {p : Program} {l : Launch} {e : Env} {s : State} {m : MethodId} {args : Array Value} {below : List Frame} {meth : Method} {c : Code} {D : va_G} {ca : Nat → ClassId} {A : Nat → Prop} {a : Nat → Nat}  {P : zz_I → zz_L → Prop} {I : zz_I} {L : zz_L}  (X : zz_X p s m meth c cX4_parseRule RX4 none 7) (hA : ∀ q, s.heap.size ≤ q → A q)   (h : zp_X4_parseRule  P I L) : zz_Go p l e ({ frames := 2, cells := 0, slots := 0, locals := 44 } : Room) s m args below meth c 0 0 (MQ below (zz_Qv D ca zz_dC A a P) args s 0 0 A) D ca zz_dC A 7 0 a [] [(0, .ref (a 1))] I L := by
  obtain ⟨hx, hb, hml, hown, zw, hr, hlocks⟩ := id X
  intro H locs ls hB hl
  unfold zp_X4_parseRule at h
  refine lv_sipush (v := (511 : Int32)) hx hb dX4_parseRule_0 (by decide) ?_
  refine lv_istore_n (lv' := [(1, .int (511 : Int32)), (0, .ref (a 1))]) hx hb dX4_parseRule_3 rfl hl (by decide) rfl (fun ls hl => ?_)
  refine lv_aload_n hx hb dX4_parseRule_4 rfl (lv_at hl 1 rfl) ?_
  refine zz_geti hx hb hown zw hB zF_X4_40 zdC_1 rfl dX4_parseRule_5 ?_
  refine lv_iload_n hx hb dX4_parseRule_8 rfl (lv_at hl 0 rfl) ?_
  refine lv_icmp_ne (tgt := 18) hx hb dX4_parseRule_9 (by decide) (fun c9 => ?_) (fun c9 => ?_)
  · have h := h.1 c9
    refine lv_aload_n hx hb dX4_parseRule_18 rfl (lv_at hl 1 rfl) ?_
    refine lv_dup hx hb dX4_parseRule_19 rfl ?_
    refine zz_geti hx hb hown zw hB zF_X4_33 zdC_1 rfl dX4_parseRule_20 ?_
    refine lv_iconst (v := (1 : Int32)) hx hb dX4_parseRule_23 (by decide) ?_
    refine lv_iadd hx hb dX4_parseRule_24 ?_
    refine zz_puti hx hb hown zw hB zP_X4_33 zdC_1 rfl dX4_parseRule_25 (fun H locs hB => ?_)
    obtain ⟨I25, eI25⟩ : ∃ z : zz_I, z = zz_up I 1 4 ((I 1 4) + (1 : Int32)) := ⟨_, rfl⟩
    rw [← eI25] at hB
    have h := h I25 eI25
    refine lv_aload_n hx hb dX4_parseRule_28 rfl (lv_at hl 1 rfl) ?_
    refine lv_iconst (v := (0 : Int32)) hx hb dX4_parseRule_29 (by decide) ?_
    refine lv_iconst (v := (2 : Int32)) hx hb dX4_parseRule_30 (by decide) ?_
    refine zz_goi hB hA (zz_runV (As := [.int (0 : Int32), .int (2 : Int32)]) (rest := []) hx hb hml hown zw hB zM_X4_74 (zc_X4_takeDigit l D ca a I25 L H.size h) zdC_1 rfl rfl hl.1 rfl (Nat.le_of_ble_eq_true rfl) rfl rfl ⟨Nat.le_of_ble_eq_true rfl, Nat.le_of_ble_eq_true rfl⟩ dX4_parseRule_31 ⟨Nat.le_of_ble_eq_true rfl, Nat.le_of_ble_eq_true rfl⟩) (fun r31 I31 L31 H locs h hB => ?_)
    refine lv_istore_n (lv' := [(2, .int r31), (1, .int (511 : Int32)), (0, .ref (a 1))]) hx hb dX4_parseRule_34 rfl hl (by decide) rfl (fun ls hl => ?_)
    refine lv_bipush (v := (7 : Int32)) hx hb dX4_parseRule_35 (by decide) ?_
    refine lv_istore_n (lv' := [(3, .int (7 : Int32)), (2, .int r31), (1, .int (511 : Int32)), (0, .ref (a 1))]) hx hb dX4_parseRule_37 rfl hl (by decide) rfl (fun ls hl => ?_)
    refine lv_aload_n hx hb dX4_parseRule_38 rfl (lv_at hl 3 rfl) ?_
    refine zz_geti hx hb hown zw hB zF_X4_36 zdC_1 rfl dX4_parseRule_39 ?_
    refine lv_if_ne (tgt := 63) hx hb dX4_parseRule_42 (by decide) (fun c42 => ?_) (fun c42 => ?_)
    · have h := h.1 c42
      exact zq_X4_parseRule_63 X hA  h H locs ls hB (lv_sub hl [3, 1] rfl)
    · have h := h.2 c42
      refine lv_aload_n hx hb dX4_parseRule_45 rfl (lv_at hl 3 rfl) ?_
      refine zz_geti hx hb hown zw hB zF_X4_40 zdC_1 rfl dX4_parseRule_46 ?_
      refine lv_iload_n hx hb dX4_parseRule_49 rfl (lv_at hl 1 rfl) ?_
      refine lv_iconst (v := (3 : Int32)) hx hb dX4_parseRule_50 (by decide) ?_
      refine lv_imul hx hb dX4_parseRule_51 ?_
      refine lv_ishr hx hb dX4_parseRule_52 ?_
      refine lv_iload_n hx hb dX4_parseRule_53 rfl (lv_at hl 0 rfl) ?_
      refine lv_iand hx hb dX4_parseRule_54 ?_
      refine lv_iload_n hx hb dX4_parseRule_55 rfl (lv_at hl 0 rfl) ?_
      refine lv_icmp_ne (tgt := 63) hx hb dX4_parseRule_56 (by decide) (fun c56 => ?_) (fun c56 => ?_)
      · have h := h.1 c56
        exact zq_X4_parseRule_63 X hA  h H locs ls hB (lv_sub hl [3, 1] rfl)
      · have h := h.2 c56
        refine lv_aload_n hx hb dX4_parseRule_59 rfl (lv_at hl 3 rfl) ?_
        refine zz_gov hB hA (zz_runV (As := []) (rest := []) hx hb hml hown zw hB zM_X4_113 (zc_X4_refuseLast l D ca a I31 L31 H.size h) zdC_1 rfl rfl hl.1 rfl (Nat.le_of_ble_eq_true rfl) rfl rfl ⟨Nat.le_of_ble_eq_true rfl, Nat.le_of_ble_eq_true rfl⟩ dX4_parseRule_60 ⟨Nat.le_of_ble_eq_true rfl, Nat.le_of_ble_eq_true rfl⟩) (fun I60 L60 H locs h hB => ?_)
        exact zq_X4_parseRule_63 X hA  h H locs ls hB (lv_sub hl [3, 1] rfl)
  · have h := h.2 c9
    refine lv_aload_n hx hb dX4_parseRule_12 rfl (lv_at hl 1 rfl) ?_
    refine lv_iconst (v := (1 : Int32)) hx hb dX4_parseRule_13 (by decide) ?_
    refine zz_putz hx hb hown zw hB zP_X4_36 zz_bool1 zdC_1 rfl dX4_parseRule_14 (fun H locs hB => ?_)
    obtain ⟨I14, eI14⟩ : ∃ z : zz_I, z = zz_up I 1 5 (1 : Int32) := ⟨_, rfl⟩
    rw [← eI14] at hB
    have h := h I14 eI14
    exact zz_vret hx hb hr hlocks hB h dX4_parseRule_17
theorem zc_X4_parseRule (l : Launch) (D : va_G) (ca : Nat → ClassId) (a : Nat → Nat) (I : zz_I) (L : zz_L) (sz : Nat)  {P : zz_I → zz_L → Prop}  (h : zp_X4_parseRule  P I L) : Met l yX4_parseRule [.code yX4_parseRule cX4_parseRule 7 none] ({ frames := 2, cells := 0, slots := 0, locals := 44 } : Room) (zz_Pre D ca zz_dC [.ref (a 1)] a I L sz) (zz_Qv D ca zz_dC (zz_A ca zz_dC a I L sz) a P) 0 0 (zz_A ca zz_dC a I L sz) :=
  zz_start (by decide) (Nat.le_of_ble_eq_true rfl) (fun p e s m below meth c X hsz hA => zq_X4_parseRule X hA  h)
