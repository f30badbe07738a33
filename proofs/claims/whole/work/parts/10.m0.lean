def zp_J6_bitCount_0f7a4 (x0 : Int32) (P : Int32 → Prop) (I : zz_I) (L : zz_L) : Prop := ∀ v9 : Int32, v9 = x0 - (((x0.toUInt32 >>> ((1 : Int32).toUInt32 &&& Int32.toUInt32 31)).toInt32) &&& (1431655765 : Int32)) → (∀ v23 : Int32, v23 = (v9 &&& (858993459 : Int32)) + (((v9.toUInt32 >>> ((2 : Int32).toUInt32 &&& Int32.toUInt32 31)).toInt32) &&& (858993459 : Int32)) → (∀ v33 : Int32, v33 = (v23 + ((v23.toUInt32 >>> ((4 : Int32).toUInt32 &&& Int32.toUInt32 31)).toInt32)) &&& (252645135 : Int32) → (∀ v40 : Int32, v40 = v33 + ((v33.toUInt32 >>> ((8 : Int32).toUInt32 &&& Int32.toUInt32 31)).toInt32) → (∀ v47 : Int32, v47 = v40 + ((v40.toUInt32 >>> ((16 : Int32).toUInt32 &&& Int32.toUInt32 31)).toInt32) → (P (v47 &&& (63 : Int32)))))))
set_option maxHeartbeats 4000000 in
set_option maxRecDepth 100000 in
theorem zq_J6_bitCount_0f7a4 {p : Program} {l : Launch} {e : Env} {s : State} {m : MethodId} {args : Array Value} {below : List Frame} {meth : Method} {c : Code} {D : va_G} {ca : Nat → ClassId} {A : Nat → Prop} {a : Nat → Nat} {ds : List zz_D}  {P : Int32 → Prop} {I : zz_I} {L : zz_L} {x0 : Int32} (X : zz_X p s m meth c cJ6_bitCount_0f7a4 RJ6 (some .int) 1) (hA : ∀ q, s.heap.size ≤ q → A q)   (h : zp_J6_bitCount_0f7a4 x0 P I L) : zz_Go p l e ({ frames := 0, cells := 0, slots := 0, locals := 0 } : Room) s m args below meth c 0 0 (MQ below (zz_Qi D ca ds A a (fun r I9 L9 => P r ∧ I9 = I ∧ L9 = L)) args s 0 0 A) D ca ds A 1 0 a [] [(0, .int x0)] I L := by
  obtain ⟨hx, hb, hml, hown, zw, hr, hlocks⟩ := id X
  intro H locs ls hB hl
  unfold zp_J6_bitCount_0f7a4 at h
  refine lv_iload_n hx hb dJ6_bitCount_0f7a4_0 rfl (lv_at hl 0 rfl) ?_
  refine lv_iload_n hx hb dJ6_bitCount_0f7a4_1 rfl (lv_at hl 0 rfl) ?_
  refine lv_iconst (v := (1 : Int32)) hx hb dJ6_bitCount_0f7a4_2 (by decide) ?_
  refine lv_iushr (v := (x0.toUInt32 >>> ((1 : Int32).toUInt32 &&& Int32.toUInt32 31)).toInt32) hx hb dJ6_bitCount_0f7a4_3 rfl ?_
  refine lv_ldcw (v := (1431655765 : Int32)) hx hb hown (zz_W_use zw zk_J6_265 rfl) dJ6_bitCount_0f7a4_4 ?_
  refine lv_iand hx hb dJ6_bitCount_0f7a4_7 ?_
  refine lv_isub hx hb dJ6_bitCount_0f7a4_8 ?_
  refine lv_topi (fun v9 ev9 => ?_)
  have h := h v9 ev9
  refine lv_istore_n (lv' := [(0, .int v9)]) hx hb dJ6_bitCount_0f7a4_9 rfl hl (by decide) rfl (fun ls hl => ?_)
  refine lv_iload_n hx hb dJ6_bitCount_0f7a4_10 rfl (lv_at hl 0 rfl) ?_
  refine lv_ldcw (v := (858993459 : Int32)) hx hb hown (zz_W_use zw zk_J6_266 rfl) dJ6_bitCount_0f7a4_11 ?_
  refine lv_iand hx hb dJ6_bitCount_0f7a4_14 ?_
  refine lv_iload_n hx hb dJ6_bitCount_0f7a4_15 rfl (lv_at hl 0 rfl) ?_
  refine lv_iconst (v := (2 : Int32)) hx hb dJ6_bitCount_0f7a4_16 (by decide) ?_
  refine lv_iushr (v := (v9.toUInt32 >>> ((2 : Int32).toUInt32 &&& Int32.toUInt32 31)).toInt32) hx hb dJ6_bitCount_0f7a4_17 rfl ?_
  refine lv_ldcw (v := (858993459 : Int32)) hx hb hown (zz_W_use zw zk_J6_266 rfl) dJ6_bitCount_0f7a4_18 ?_
  refine lv_iand hx hb dJ6_bitCount_0f7a4_21 ?_
  refine lv_iadd hx hb dJ6_bitCount_0f7a4_22 ?_
  refine lv_topi (fun v23 ev23 => ?_)
  have h := h v23 ev23
  refine lv_istore_n (lv' := [(0, .int v23)]) hx hb dJ6_bitCount_0f7a4_23 rfl hl (by decide) rfl (fun ls hl => ?_)
  refine lv_iload_n hx hb dJ6_bitCount_0f7a4_24 rfl (lv_at hl 0 rfl) ?_
  refine lv_iload_n hx hb dJ6_bitCount_0f7a4_25 rfl (lv_at hl 0 rfl) ?_
  refine lv_iconst (v := (4 : Int32)) hx hb dJ6_bitCount_0f7a4_26 (by decide) ?_
  refine lv_iushr (v := (v23.toUInt32 >>> ((4 : Int32).toUInt32 &&& Int32.toUInt32 31)).toInt32) hx hb dJ6_bitCount_0f7a4_27 rfl ?_
  refine lv_iadd hx hb dJ6_bitCount_0f7a4_28 ?_
  refine lv_ldcw (v := (252645135 : Int32)) hx hb hown (zz_W_use zw zk_J6_267 rfl) dJ6_bitCount_0f7a4_29 ?_
  refine lv_iand hx hb dJ6_bitCount_0f7a4_32 ?_
  refine lv_topi (fun v33 ev33 => ?_)
  have h := h v33 ev33
  refine lv_istore_n (lv' := [(0, .int v33)]) hx hb dJ6_bitCount_0f7a4_33 rfl hl (by decide) rfl (fun ls hl => ?_)
  refine lv_iload_n hx hb dJ6_bitCount_0f7a4_34 rfl (lv_at hl 0 rfl) ?_
  refine lv_iload_n hx hb dJ6_bitCount_0f7a4_35 rfl (lv_at hl 0 rfl) ?_
  refine lv_bipush (v := (8 : Int32)) hx hb dJ6_bitCount_0f7a4_36 (by decide) ?_
  refine lv_iushr (v := (v33.toUInt32 >>> ((8 : Int32).toUInt32 &&& Int32.toUInt32 31)).toInt32) hx hb dJ6_bitCount_0f7a4_38 rfl ?_
  refine lv_iadd hx hb dJ6_bitCount_0f7a4_39 ?_
  refine lv_topi (fun v40 ev40 => ?_)
  have h := h v40 ev40
  refine lv_istore_n (lv' := [(0, .int v40)]) hx hb dJ6_bitCount_0f7a4_40 rfl hl (by decide) rfl (fun ls hl => ?_)
  refine lv_iload_n hx hb dJ6_bitCount_0f7a4_41 rfl (lv_at hl 0 rfl) ?_
  refine lv_iload_n hx hb dJ6_bitCount_0f7a4_42 rfl (lv_at hl 0 rfl) ?_
  refine lv_bipush (v := (16 : Int32)) hx hb dJ6_bitCount_0f7a4_43 (by decide) ?_
  refine lv_iushr (v := (v40.toUInt32 >>> ((16 : Int32).toUInt32 &&& Int32.toUInt32 31)).toInt32) hx hb dJ6_bitCount_0f7a4_45 rfl ?_
  refine lv_iadd hx hb dJ6_bitCount_0f7a4_46 ?_
  refine lv_topi (fun v47 ev47 => ?_)
  have h := h v47 ev47
  refine lv_istore_n (lv' := [(0, .int v47)]) hx hb dJ6_bitCount_0f7a4_47 rfl hl (by decide) rfl (fun ls hl => ?_)
  refine lv_iload_n hx hb dJ6_bitCount_0f7a4_48 rfl (lv_at hl 0 rfl) ?_
  refine lv_bipush (v := (63 : Int32)) hx hb dJ6_bitCount_0f7a4_49 (by decide) ?_
  refine lv_iand hx hb dJ6_bitCount_0f7a4_51 ?_
  exact zz_iret hx hb hr hlocks hB ⟨h, rfl, rfl⟩ dJ6_bitCount_0f7a4_52
theorem zc_J6_bitCount_0f7a4 (l : Launch) (D : va_G) (ca : Nat → ClassId) (a : Nat → Nat) (I : zz_I) (L : zz_L) (sz : Nat) {ds : List zz_D} {x0 : Int32} {P : Int32 → Prop}  (h : zp_J6_bitCount_0f7a4 x0 P I L) : Met l yJ6_bitCount_0f7a4 [.code yJ6_bitCount_0f7a4 cJ6_bitCount_0f7a4 1 (some .int)] ({ frames := 0, cells := 0, slots := 0, locals := 0 } : Room) (zz_Pre D ca ds [.int x0] a I L sz) (zz_Qi D ca ds (zz_A ca ds a I L sz) a (fun r I9 L9 => P r ∧ I9 = I ∧ L9 = L)) 0 0 (zz_A ca ds a I L sz) :=
  zz_start (by decide) (Nat.le_of_ble_eq_true rfl) (fun p e s m below meth c X hsz hA => zq_J6_bitCount_0f7a4 X hA  h)
def zp_J7_fill_53178_5b (K5 : Int32 → zz_I → zz_L → Prop) (P : zz_I → zz_L → Prop) (k0 : Nat) (n0 : Nat) (x1 : Int32) (x2 : Int32) (x3 : Int32) (I : zz_I) (L : zz_L) : Prop := (x3 ≤ x2 → P I L) ∧ (¬ x3 ≤ x2 → vp_in x2 n0 ∧ (∀ I13 : zz_I, I13 = zz_up I k0 x2.toNatClampNeg x1 → (∀ v14 : Int32, v14 = x2 + (1 : Int32) → (K5 v14 I13 L))))
set_option maxHeartbeats 4000000 in
set_option maxRecDepth 100000 in
theorem zq_J7_fill_53178_5b {p : Program} {l : Launch} {e : Env} {s : State} {m : MethodId} {args : Array Value} {below : List Frame} {meth : Method} {c : Code} {D : va_G} {ca : Nat → ClassId} {A : Nat → Prop} {a : Nat → Nat} {ds : List zz_D} {K5 : Int32 → zz_I → zz_L → Prop} {P : zz_I → zz_L → Prop} {I : zz_I} {L : zz_L} {k0 : Nat} {n0 : Nat} {x1 : Int32} {x2 : Int32} {x3 : Int32} (X : zz_X p s m meth c cJ7_fill_53178 RJ7 none 4) (hA : ∀ q, s.heap.size ≤ q → A q) (hk0 : ds[k0]? = some (.inl (0, n0))) (hK5 : ∀ (y2 : Int32) (I8 : zz_I) (L8 : zz_L), K5 y2 I8 L8 → zz_Go p l e ({ frames := 0, cells := 0, slots := 0, locals := 0 } : Room) s m args below meth c 0 0 (MQ below (zz_Qv D ca ds A a P) args s 0 0 A) D ca ds A 4 5 a [] [(0, .ref (a k0)), (1, .int x1), (2, .int y2), (3, .int x3)] I8 L8) (h : zp_J7_fill_53178_5b K5 P k0 n0 x1 x2 x3 I L) : zz_Go p l e ({ frames := 0, cells := 0, slots := 0, locals := 0 } : Room) s m args below meth c 0 0 (MQ below (zz_Qv D ca ds A a P) args s 0 0 A) D ca ds A 4 5 a [] [(0, .ref (a k0)), (1, .int x1), (2, .int x2), (3, .int x3)] I L := by
  obtain ⟨hx, hb, hml, hown, zw, hr, hlocks⟩ := id X
  intro H locs ls hB hl
  unfold zp_J7_fill_53178_5b at h
  refine lv_iload_n hx hb dJ7_fill_53178_5 rfl (lv_at hl 2 rfl) ?_
  refine lv_iload_n hx hb dJ7_fill_53178_6 rfl (lv_at hl 3 rfl) ?_
  refine lv_icmp_ge (tgt := 20) hx hb dJ7_fill_53178_7 (by decide) (fun c7 => ?_) (fun c7 => ?_)
  · have h := h.1 c7
    exact zz_vret hx hb hr hlocks hB h dJ7_fill_53178_20
  · have h := h.2 c7
    refine lv_aload_n hx hb dJ7_fill_53178_10 rfl (lv_at hl 0 rfl) ?_
    refine lv_iload_n hx hb dJ7_fill_53178_11 rfl (lv_at hl 2 rfl) ?_
    refine lv_iload_n hx hb dJ7_fill_53178_12 rfl (lv_at hl 1 rfl) ?_
    obtain ⟨hi13, h⟩ := h
    refine zz_iast hx hb hB hk0 hi13 dJ7_fill_53178_13 (fun H locs hB => ?_)
    obtain ⟨I13, eI13⟩ : ∃ z : zz_I, z = zz_up I k0 x2.toNatClampNeg x1 := ⟨_, rfl⟩
    rw [← eI13] at hB
    have h := h I13 eI13
    obtain ⟨v14, ev14⟩ : ∃ z : Int32, z = x2 + (1 : Int32) := ⟨_, rfl⟩
    have h := h v14 ev14
    refine lv_iinc (v := v14) (lv' := [(2, .int v14), (0, .ref (a k0)), (1, .int x1), (3, .int x3)]) hx hb dJ7_fill_53178_14 hl (k := 2) rfl (by rw [ev14]; rfl) (by decide) rfl (fun ls hl => ?_)
    refine lv_goto (tgt := 5) hx hb dJ7_fill_53178_17 (by decide) ?_
    exact hK5 _ _ _ h H locs ls hB (lv_sub hl [1, 2, 0, 3] rfl)
def zp_J7_fill_53178_5  (P : zz_I → zz_L → Prop) (k0 : Nat) (n0 : Nat) (x1 : Int32) (x2 : Int32) (x3 : Int32) (I : zz_I) (L : zz_L) : Prop := ∃ (Inv : Int32 → zz_I → zz_L → Prop) (μ : Int32 → zz_I → zz_L → Nat), Inv x2 I L ∧ ∀ (y2 : Int32) (I8 : zz_I) (L8 : zz_L), Inv y2 I8 L8 → zp_J7_fill_53178_5b  (fun z2 I7 L7 => Inv z2 I7 L7 ∧ μ z2 I7 L7 < μ y2 I8 L8) P k0 n0 x1 y2 x3 I8 L8
set_option maxHeartbeats 4000000 in
set_option maxRecDepth 100000 in
theorem zq_J7_fill_53178_5 {p : Program} {l : Launch} {e : Env} {s : State} {m : MethodId} {args : Array Value} {below : List Frame} {meth : Method} {c : Code} {D : va_G} {ca : Nat → ClassId} {A : Nat → Prop} {a : Nat → Nat} {ds : List zz_D}  {P : zz_I → zz_L → Prop} {I : zz_I} {L : zz_L} {k0 : Nat} {n0 : Nat} {x1 : Int32} {x2 : Int32} {x3 : Int32} (X : zz_X p s m meth c cJ7_fill_53178 RJ7 none 4) (hA : ∀ q, s.heap.size ≤ q → A q) (hk0 : ds[k0]? = some (.inl (0, n0)))  (h : zp_J7_fill_53178_5  P k0 n0 x1 x2 x3 I L) : zz_Go p l e ({ frames := 0, cells := 0, slots := 0, locals := 0 } : Room) s m args below meth c 0 0 (MQ below (zz_Qv D ca ds A a P) args s 0 0 A) D ca ds A 4 5 a [] [(0, .ref (a k0)), (1, .int x1), (2, .int x2), (3, .int x3)] I L := by
  unfold zp_J7_fill_53178_5 at h
  obtain ⟨Inv, μ, hv0, hs⟩ := h
  have key : ∀ (n9 : Nat) (y2 : Int32) (I8 : zz_I) (L8 : zz_L), μ y2 I8 L8 < n9 → Inv y2 I8 L8 → zz_Go p l e ({ frames := 0, cells := 0, slots := 0, locals := 0 } : Room) s m args below meth c 0 0 (MQ below (zz_Qv D ca ds A a P) args s 0 0 A) D ca ds A 4 5 a [] [(0, .ref (a k0)), (1, .int x1), (2, .int y2), (3, .int x3)] I8 L8 := by
    intro n9
    induction n9 with
    | zero => intro y2 I8 L8 hn; exact absurd hn (Nat.not_lt_zero _)
    | succ n9 ih =>
      intro y2 I8 L8 hn hi
      exact zq_J7_fill_53178_5b (K5 := (fun z2 I7 L7 => Inv z2 I7 L7 ∧ μ z2 I7 L7 < μ y2 I8 L8)) X hA hk0  (fun z2 I7 L7 hz => ih z2 I7 L7 (Nat.lt_of_lt_of_le hz.2 (Nat.le_of_lt_succ hn)) hz.1) (hs y2 I8 L8 hi)
  exact key _ x2 I L (Nat.lt_succ_self _) hv0
def zp_J7_fill_53178 (k0 : Nat) (n0 : Nat) (x1 : Int32) (P : zz_I → zz_L → Prop) (I : zz_I) (L : zz_L) : Prop := ∀ v4 : Int32, v4 = nI n0 → (zp_J7_fill_53178_5 P k0 n0 x1 (0 : Int32) v4 I L)
set_option maxHeartbeats 4000000 in
set_option maxRecDepth 100000 in
theorem zq_J7_fill_53178 {p : Program} {l : Launch} {e : Env} {s : State} {m : MethodId} {args : Array Value} {below : List Frame} {meth : Method} {c : Code} {D : va_G} {ca : Nat → ClassId} {A : Nat → Prop} {a : Nat → Nat} {ds : List zz_D}  {P : zz_I → zz_L → Prop} {I : zz_I} {L : zz_L} {k0 : Nat} {n0 : Nat} {x1 : Int32} (X : zz_X p s m meth c cJ7_fill_53178 RJ7 none 4) (hA : ∀ q, s.heap.size ≤ q → A q) (hk0 : ds[k0]? = some (.inl (0, n0)))  (h : zp_J7_fill_53178 k0 n0 x1 P I L) : zz_Go p l e ({ frames := 0, cells := 0, slots := 0, locals := 0 } : Room) s m args below meth c 0 0 (MQ below (zz_Qv D ca ds A a P) args s 0 0 A) D ca ds A 4 0 a [] [(0, .ref (a k0)), (1, .int x1)] I L := by
  obtain ⟨hx, hb, hml, hown, zw, hr, hlocks⟩ := id X
  intro H locs ls hB hl
  unfold zp_J7_fill_53178 at h
  refine lv_iconst (v := (0 : Int32)) hx hb dJ7_fill_53178_0 (by decide) ?_
  refine lv_istore_n (lv' := [(2, .int (0 : Int32)), (0, .ref (a k0)), (1, .int x1)]) hx hb dJ7_fill_53178_1 rfl hl (by decide) rfl (fun ls hl => ?_)
  refine lv_aload_n hx hb dJ7_fill_53178_2 rfl (lv_at hl 1 rfl) ?_
  refine zz_alen0 hx hb hB hk0 dJ7_fill_53178_3 ?_
  refine lv_topi (fun v4 ev4 => ?_)
  have h := h v4 ev4
  refine lv_istore_n (lv' := [(3, .int v4), (2, .int (0 : Int32)), (0, .ref (a k0)), (1, .int x1)]) hx hb dJ7_fill_53178_4 rfl hl (by decide) rfl (fun ls hl => ?_)
  exact zq_J7_fill_53178_5 X hA hk0 h H locs ls hB (lv_sub hl [2, 3, 1, 0] rfl)
theorem zc_J7_fill_53178 (l : Launch) (D : va_G) (ca : Nat → ClassId) (a : Nat → Nat) (I : zz_I) (L : zz_L) (sz : Nat) {ds : List zz_D} {k0 : Nat} {n0 : Nat} {x1 : Int32} {P : zz_I → zz_L → Prop} (hk0 : ds[k0]? = some (.inl (0, n0))) (h : zp_J7_fill_53178 k0 n0 x1 P I L) : Met l yJ7_fill_53178 [.code yJ7_fill_53178 cJ7_fill_53178 4 none] ({ frames := 0, cells := 0, slots := 0, locals := 0 } : Room) (zz_Pre D ca ds [.ref (a k0), .int x1] a I L sz) (zz_Qv D ca ds (zz_A ca ds a I L sz) a P) 0 0 (zz_A ca ds a I L sz) :=
  zz_start (by decide) (Nat.le_of_ble_eq_true rfl) (fun p e s m below meth c X hsz hA => zq_J7_fill_53178 X hA hk0 h)
def zp_J7_fill_d0a16_6b (K6 : Int32 → zz_I → zz_L → Prop) (P : zz_I → zz_L → Prop) (k0 : Nat) (n0 : Nat) (x1 : Int64) (x3 : Int32) (x4 : Int32) (I : zz_I) (L : zz_L) : Prop := (x4 ≤ x3 → P I L) ∧ (¬ x4 ≤ x3 → vp_in x3 n0 ∧ (∀ L15 : zz_L, L15 = zz_up L k0 x3.toNatClampNeg x1 → (∀ v16 : Int32, v16 = x3 + (1 : Int32) → (K6 v16 I L15))))
set_option maxHeartbeats 4000000 in
set_option maxRecDepth 100000 in
theorem zq_J7_fill_d0a16_6b {p : Program} {l : Launch} {e : Env} {s : State} {m : MethodId} {args : Array Value} {below : List Frame} {meth : Method} {c : Code} {D : va_G} {ca : Nat → ClassId} {A : Nat → Prop} {a : Nat → Nat} {ds : List zz_D} {K6 : Int32 → zz_I → zz_L → Prop} {P : zz_I → zz_L → Prop} {I : zz_I} {L : zz_L} {k0 : Nat} {n0 : Nat} {x1 : Int64} {x3 : Int32} {x4 : Int32} (X : zz_X p s m meth c cJ7_fill_d0a16 RJ7 none 5) (hA : ∀ q, s.heap.size ≤ q → A q) (hk0 : ds[k0]? = some (.inl (2, n0))) (hK6 : ∀ (y3 : Int32) (I8 : zz_I) (L8 : zz_L), K6 y3 I8 L8 → zz_Go p l e ({ frames := 0, cells := 0, slots := 0, locals := 0 } : Room) s m args below meth c 0 0 (MQ below (zz_Qv D ca ds A a P) args s 0 0 A) D ca ds A 5 6 a [] [(0, .ref (a k0)), (1, .long x1), (3, .int y3), (4, .int x4)] I8 L8) (h : zp_J7_fill_d0a16_6b K6 P k0 n0 x1 x3 x4 I L) : zz_Go p l e ({ frames := 0, cells := 0, slots := 0, locals := 0 } : Room) s m args below meth c 0 0 (MQ below (zz_Qv D ca ds A a P) args s 0 0 A) D ca ds A 5 6 a [] [(0, .ref (a k0)), (1, .long x1), (3, .int x3), (4, .int x4)] I L := by
  obtain ⟨hx, hb, hml, hown, zw, hr, hlocks⟩ := id X
  intro H locs ls hB hl
  unfold zp_J7_fill_d0a16_6b at h
  refine lv_iload_n hx hb dJ7_fill_d0a16_6 rfl (lv_at hl 2 rfl) ?_
  refine lv_iload hx hb dJ7_fill_d0a16_7 (lv_at hl 3 rfl) ?_
  refine lv_icmp_ge (tgt := 22) hx hb dJ7_fill_d0a16_9 (by decide) (fun c9 => ?_) (fun c9 => ?_)
  · have h := h.1 c9
    exact zz_vret hx hb hr hlocks hB h dJ7_fill_d0a16_22
  · have h := h.2 c9
    refine lv_aload_n hx hb dJ7_fill_d0a16_12 rfl (lv_at hl 0 rfl) ?_
    refine lv_iload_n hx hb dJ7_fill_d0a16_13 rfl (lv_at hl 2 rfl) ?_
    refine lv_lload_n hx hb dJ7_fill_d0a16_14 rfl (lv_at hl 1 rfl) ?_
    obtain ⟨hi15, h⟩ := h
    refine zz_last hx hb hB hk0 hi15 dJ7_fill_d0a16_15 (fun H locs hB => ?_)
    obtain ⟨L15, eL15⟩ : ∃ z : zz_L, z = zz_up L k0 x3.toNatClampNeg x1 := ⟨_, rfl⟩
    rw [← eL15] at hB
    have h := h L15 eL15
    obtain ⟨v16, ev16⟩ : ∃ z : Int32, z = x3 + (1 : Int32) := ⟨_, rfl⟩
    have h := h v16 ev16
    refine lv_iinc (v := v16) (lv' := [(3, .int v16), (0, .ref (a k0)), (1, .long x1), (4, .int x4)]) hx hb dJ7_fill_d0a16_16 hl (k := 2) rfl (by rw [ev16]; rfl) (by decide) rfl (fun ls hl => ?_)
    refine lv_goto (tgt := 6) hx hb dJ7_fill_d0a16_19 (by decide) ?_
    exact hK6 _ _ _ h H locs ls hB (lv_sub hl [1, 2, 0, 3] rfl)
def zp_J7_fill_d0a16_6  (P : zz_I → zz_L → Prop) (k0 : Nat) (n0 : Nat) (x1 : Int64) (x3 : Int32) (x4 : Int32) (I : zz_I) (L : zz_L) : Prop := ∃ (Inv : Int32 → zz_I → zz_L → Prop) (μ : Int32 → zz_I → zz_L → Nat), Inv x3 I L ∧ ∀ (y3 : Int32) (I8 : zz_I) (L8 : zz_L), Inv y3 I8 L8 → zp_J7_fill_d0a16_6b  (fun z3 I7 L7 => Inv z3 I7 L7 ∧ μ z3 I7 L7 < μ y3 I8 L8) P k0 n0 x1 y3 x4 I8 L8
set_option maxHeartbeats 4000000 in
set_option maxRecDepth 100000 in
theorem zq_J7_fill_d0a16_6 {p : Program} {l : Launch} {e : Env} {s : State} {m : MethodId} {args : Array Value} {below : List Frame} {meth : Method} {c : Code} {D : va_G} {ca : Nat → ClassId} {A : Nat → Prop} {a : Nat → Nat} {ds : List zz_D}  {P : zz_I → zz_L → Prop} {I : zz_I} {L : zz_L} {k0 : Nat} {n0 : Nat} {x1 : Int64} {x3 : Int32} {x4 : Int32} (X : zz_X p s m meth c cJ7_fill_d0a16 RJ7 none 5) (hA : ∀ q, s.heap.size ≤ q → A q) (hk0 : ds[k0]? = some (.inl (2, n0)))  (h : zp_J7_fill_d0a16_6  P k0 n0 x1 x3 x4 I L) : zz_Go p l e ({ frames := 0, cells := 0, slots := 0, locals := 0 } : Room) s m args below meth c 0 0 (MQ below (zz_Qv D ca ds A a P) args s 0 0 A) D ca ds A 5 6 a [] [(0, .ref (a k0)), (1, .long x1), (3, .int x3), (4, .int x4)] I L := by
  unfold zp_J7_fill_d0a16_6 at h
  obtain ⟨Inv, μ, hv0, hs⟩ := h
  have key : ∀ (n9 : Nat) (y3 : Int32) (I8 : zz_I) (L8 : zz_L), μ y3 I8 L8 < n9 → Inv y3 I8 L8 → zz_Go p l e ({ frames := 0, cells := 0, slots := 0, locals := 0 } : Room) s m args below meth c 0 0 (MQ below (zz_Qv D ca ds A a P) args s 0 0 A) D ca ds A 5 6 a [] [(0, .ref (a k0)), (1, .long x1), (3, .int y3), (4, .int x4)] I8 L8 := by
    intro n9
    induction n9 with
    | zero => intro y3 I8 L8 hn; exact absurd hn (Nat.not_lt_zero _)
    | succ n9 ih =>
      intro y3 I8 L8 hn hi
      exact zq_J7_fill_d0a16_6b (K6 := (fun z3 I7 L7 => Inv z3 I7 L7 ∧ μ z3 I7 L7 < μ y3 I8 L8)) X hA hk0  (fun z3 I7 L7 hz => ih z3 I7 L7 (Nat.lt_of_lt_of_le hz.2 (Nat.le_of_lt_succ hn)) hz.1) (hs y3 I8 L8 hi)
  exact key _ x3 I L (Nat.lt_succ_self _) hv0
def zp_J7_fill_d0a16 (k0 : Nat) (n0 : Nat) (x1 : Int64) (P : zz_I → zz_L → Prop) (I : zz_I) (L : zz_L) : Prop := ∀ v4 : Int32, v4 = nI n0 → (zp_J7_fill_d0a16_6 P k0 n0 x1 (0 : Int32) v4 I L)
set_option maxHeartbeats 4000000 in
set_option maxRecDepth 100000 in
theorem zq_J7_fill_d0a16 {p : Program} {l : Launch} {e : Env} {s : State} {m : MethodId} {args : Array Value} {below : List Frame} {meth : Method} {c : Code} {D : va_G} {ca : Nat → ClassId} {A : Nat → Prop} {a : Nat → Nat} {ds : List zz_D}  {P : zz_I → zz_L → Prop} {I : zz_I} {L : zz_L} {k0 : Nat} {n0 : Nat} {x1 : Int64} (X : zz_X p s m meth c cJ7_fill_d0a16 RJ7 none 5) (hA : ∀ q, s.heap.size ≤ q → A q) (hk0 : ds[k0]? = some (.inl (2, n0)))  (h : zp_J7_fill_d0a16 k0 n0 x1 P I L) : zz_Go p l e ({ frames := 0, cells := 0, slots := 0, locals := 0 } : Room) s m args below meth c 0 0 (MQ below (zz_Qv D ca ds A a P) args s 0 0 A) D ca ds A 5 0 a [] [(0, .ref (a k0)), (1, .long x1)] I L := by
  obtain ⟨hx, hb, hml, hown, zw, hr, hlocks⟩ := id X
  intro H locs ls hB hl
  unfold zp_J7_fill_d0a16 at h
  refine lv_iconst (v := (0 : Int32)) hx hb dJ7_fill_d0a16_0 (by decide) ?_
  refine lv_istore_n (lv' := [(3, .int (0 : Int32)), (0, .ref (a k0)), (1, .long x1)]) hx hb dJ7_fill_d0a16_1 rfl hl (by decide) rfl (fun ls hl => ?_)
  refine lv_aload_n hx hb dJ7_fill_d0a16_2 rfl (lv_at hl 1 rfl) ?_
  refine zz_alen2 hx hb hB hk0 dJ7_fill_d0a16_3 ?_
  refine lv_topi (fun v4 ev4 => ?_)
  have h := h v4 ev4
  refine lv_istore (lv' := [(4, .int v4), (3, .int (0 : Int32)), (0, .ref (a k0)), (1, .long x1)]) hx hb dJ7_fill_d0a16_4 hl (by decide) rfl (fun ls hl => ?_)
  exact zq_J7_fill_d0a16_6 X hA hk0 h H locs ls hB (lv_sub hl [2, 3, 1, 0] rfl)
theorem zc_J7_fill_d0a16 (l : Launch) (D : va_G) (ca : Nat → ClassId) (a : Nat → Nat) (I : zz_I) (L : zz_L) (sz : Nat) {ds : List zz_D} {k0 : Nat} {n0 : Nat} {x1 : Int64} {P : zz_I → zz_L → Prop} (hk0 : ds[k0]? = some (.inl (2, n0))) (h : zp_J7_fill_d0a16 k0 n0 x1 P I L) : Met l yJ7_fill_d0a16 [.code yJ7_fill_d0a16 cJ7_fill_d0a16 5 none] ({ frames := 0, cells := 0, slots := 0, locals := 0 } : Room) (zz_Pre D ca ds [.ref (a k0), .long x1] a I L sz) (zz_Qv D ca ds (zz_A ca ds a I L sz) a P) 0 0 (zz_A ca ds a I L sz) :=
  zz_start (by decide) (Nat.le_of_ble_eq_true rfl) (fun p e s m below meth c X hsz hA => zq_J7_fill_d0a16 X hA hk0 h)
def zp_X0_followersOf_77 (K5 : Int32 → Int32 → Prop) (P : Int32 → Prop) (k1 : Nat) (x2 : Int32) (x3 : Int32) (x4 : Int32) (I : zz_I) (L : zz_L) : Prop := ∀ v83 : Int32, v83 = x3 ||| ((1 : Int32) <<< (x4 &&& 31)) → (∀ v84 : Int32, v84 = x4 + (1 : Int32) → (K5 v83 v84))
set_option maxHeartbeats 4000000 in
set_option maxRecDepth 100000 in
theorem zq_X0_followersOf_77 {p : Program} {l : Launch} {e : Env} {s : State} {m : MethodId} {args : Array Value} {below : List Frame} {meth : Method} {c : Code} {D : va_G} {ca : Nat → ClassId} {A : Nat → Prop} {a : Nat → Nat} {K5 : Int32 → Int32 → Prop} {P : Int32 → Prop} {I : zz_I} {L : zz_L} {k1 : Nat} {x2 : Int32} {x3 : Int32} {x4 : Int32} (X : zz_X p s m meth c cX0_followersOf RX0 (some .int) 7) (hA : ∀ q, s.heap.size ≤ q → A q) (hk1 : zz_isT k1) (hK5 : ∀ (y3 : Int32) (y4 : Int32), K5 y3 y4 → zz_Go p l e ({ frames := 0, cells := 0, slots := 0, locals := 0 } : Room) s m args below meth c 0 0 (MQ below (zz_Qi D ca zz_dC A a (fun r I9 L9 => P r ∧ I9 = I ∧ L9 = L)) args s 0 0 A) D ca zz_dC A 7 5 a [] [(0, .ref (a 14)), (1, .ref (a k1)), (2, .int x2), (3, .int y3), (4, .int y4)] I L) (h : zp_X0_followersOf_77 K5 P k1 x2 x3 x4 I L) : zz_Go p l e ({ frames := 0, cells := 0, slots := 0, locals := 0 } : Room) s m args below meth c 0 0 (MQ below (zz_Qi D ca zz_dC A a (fun r I9 L9 => P r ∧ I9 = I ∧ L9 = L)) args s 0 0 A) D ca zz_dC A 7 77 a [] [(0, .ref (a 14)), (1, .ref (a k1)), (2, .int x2), (3, .int x3), (4, .int x4)] I L := by
  obtain ⟨hx, hb, hml, hown, zw, hr, hlocks⟩ := id X
  intro H locs ls hB hl
  unfold zp_X0_followersOf_77 at h
  refine lv_iload_n hx hb dX0_followersOf_77 rfl (lv_at hl 3 rfl) ?_
  refine lv_iconst (v := (1 : Int32)) hx hb dX0_followersOf_78 (by decide) ?_
  refine lv_iload hx hb dX0_followersOf_79 (lv_at hl 4 rfl) ?_
  refine lv_ishl hx hb dX0_followersOf_81 ?_
  refine lv_ior hx hb dX0_followersOf_82 ?_
  refine lv_topi (fun v83 ev83 => ?_)
  have h := h v83 ev83
  refine lv_istore_n (lv' := [(3, .int v83), (0, .ref (a 14)), (1, .ref (a k1)), (2, .int x2), (4, .int x4)]) hx hb dX0_followersOf_83 rfl hl (by decide) rfl (fun ls hl => ?_)
  obtain ⟨v84, ev84⟩ : ∃ z : Int32, z = x4 + (1 : Int32) := ⟨_, rfl⟩
  have h := h v84 ev84
  refine lv_iinc (v := v84) (lv' := [(4, .int v84), (3, .int v83), (0, .ref (a 14)), (1, .ref (a k1)), (2, .int x2)]) hx hb dX0_followersOf_84 hl (k := 4) rfl (by rw [ev84]; rfl) (by decide) rfl (fun ls hl => ?_)
  refine lv_goto (tgt := 5) hx hb dX0_followersOf_87 (by decide) ?_
  exact hK5 _ _ h H locs ls hB (lv_sub hl [2, 3, 4, 1, 0] rfl)
def zp_X0_followersOf_58 (K5 : Int32 → Int32 → Prop) (P : Int32 → Prop) (k1 : Nat) (x2 : Int32) (x3 : Int32) (x4 : Int32) (x5 : Int32) (s0 : Int32) (I : zz_I) (L : zz_L) : Prop := (x5 = (1 : Int32) → zp_X0_followersOf_77 K5 P k1 x2 x3 x4 I L) ∧ (¬ x5 = (1 : Int32) → (¬ x5 = (2 : Int32) → ∀ v84 : Int32, v84 = x4 + (1 : Int32) → (K5 x3 v84)) ∧ (x5 = (2 : Int32) → (s0 = 0 → ∀ v84 : Int32, v84 = x4 + (1 : Int32) → (K5 x3 v84)) ∧ (¬ s0 = 0 → zp_X0_followersOf_77 K5 P k1 x2 x3 x4 I L)))
set_option maxHeartbeats 4000000 in
set_option maxRecDepth 100000 in
theorem zq_X0_followersOf_58 {p : Program} {l : Launch} {e : Env} {s : State} {m : MethodId} {args : Array Value} {below : List Frame} {meth : Method} {c : Code} {D : va_G} {ca : Nat → ClassId} {A : Nat → Prop} {a : Nat → Nat} {K5 : Int32 → Int32 → Prop} {P : Int32 → Prop} {I : zz_I} {L : zz_L} {k1 : Nat} {x2 : Int32} {x3 : Int32} {x4 : Int32} {x5 : Int32} {s0 : Int32} (X : zz_X p s m meth c cX0_followersOf RX0 (some .int) 7) (hA : ∀ q, s.heap.size ≤ q → A q) (hk1 : zz_isT k1) (hK5 : ∀ (y3 : Int32) (y4 : Int32), K5 y3 y4 → zz_Go p l e ({ frames := 0, cells := 0, slots := 0, locals := 0 } : Room) s m args below meth c 0 0 (MQ below (zz_Qi D ca zz_dC A a (fun r I9 L9 => P r ∧ I9 = I ∧ L9 = L)) args s 0 0 A) D ca zz_dC A 7 5 a [] [(0, .ref (a 14)), (1, .ref (a k1)), (2, .int x2), (3, .int y3), (4, .int y4)] I L) (h : zp_X0_followersOf_58 K5 P k1 x2 x3 x4 x5 s0 I L) : zz_Go p l e ({ frames := 0, cells := 0, slots := 0, locals := 0 } : Room) s m args below meth c 0 0 (MQ below (zz_Qi D ca zz_dC A a (fun r I9 L9 => P r ∧ I9 = I ∧ L9 = L)) args s 0 0 A) D ca zz_dC A 7 58 a [.int s0] [(0, .ref (a 14)), (1, .ref (a k1)), (2, .int x2), (3, .int x3), (4, .int x4), (5, .int x5)] I L := by
  obtain ⟨hx, hb, hml, hown, zw, hr, hlocks⟩ := id X
  intro H locs ls hB hl
  unfold zp_X0_followersOf_58 at h
  refine lv_istore (lv' := [(6, .int s0), (0, .ref (a 14)), (1, .ref (a k1)), (2, .int x2), (3, .int x3), (4, .int x4), (5, .int x5)]) hx hb dX0_followersOf_58 hl (by decide) rfl (fun ls hl => ?_)
  refine lv_iload hx hb dX0_followersOf_60 (lv_at hl 6 rfl) ?_
  refine lv_iconst (v := (1 : Int32)) hx hb dX0_followersOf_62 (by decide) ?_
  refine lv_icmp_eq (tgt := 77) hx hb dX0_followersOf_63 (by decide) (fun c63 => ?_) (fun c63 => ?_)
  · have h := h.1 c63
    exact zq_X0_followersOf_77 X hA hk1 hK5 h H locs ls hB (lv_sub hl [1, 2, 3, 4, 5] rfl)
  · have h := h.2 c63
    refine lv_iload hx hb dX0_followersOf_66 (lv_at hl 6 rfl) ?_
    refine lv_iconst (v := (2 : Int32)) hx hb dX0_followersOf_68 (by decide) ?_
    refine lv_icmp_ne (tgt := 84) hx hb dX0_followersOf_69 (by decide) (fun c69 => ?_) (fun c69 => ?_)
    · have h := h.1 c69
      obtain ⟨v84, ev84⟩ : ∃ z : Int32, z = x4 + (1 : Int32) := ⟨_, rfl⟩
      have h := h v84 ev84
      refine lv_iinc (v := v84) (lv' := [(4, .int v84), (6, .int s0), (0, .ref (a 14)), (1, .ref (a k1)), (2, .int x2), (3, .int x3), (5, .int x5)]) hx hb dX0_followersOf_84 hl (k := 5) rfl (by rw [ev84]; rfl) (by decide) rfl (fun ls hl => ?_)
      refine lv_goto (tgt := 5) hx hb dX0_followersOf_87 (by decide) ?_
      exact hK5 _ _ h H locs ls hB (lv_sub hl [2, 3, 4, 5, 0] rfl)
    · have h := h.2 c69
      refine lv_iload hx hb dX0_followersOf_72 (lv_at hl 0 rfl) ?_
      refine lv_if_eq (tgt := 84) hx hb dX0_followersOf_74 (by decide) (fun c74 => ?_) (fun c74 => ?_)
      · have h := h.1 c74
        obtain ⟨v84, ev84⟩ : ∃ z : Int32, z = x4 + (1 : Int32) := ⟨_, rfl⟩
        have h := h v84 ev84
        refine lv_iinc (v := v84) (lv' := [(4, .int v84), (6, .int s0), (0, .ref (a 14)), (1, .ref (a k1)), (2, .int x2), (3, .int x3), (5, .int x5)]) hx hb dX0_followersOf_84 hl (k := 5) rfl (by rw [ev84]; rfl) (by decide) rfl (fun ls hl => ?_)
        refine lv_goto (tgt := 5) hx hb dX0_followersOf_87 (by decide) ?_
        exact hK5 _ _ h H locs ls hB (lv_sub hl [2, 3, 4, 5, 0] rfl)
      · have h := h.2 c74
        exact zq_X0_followersOf_77 X hA hk1 hK5 h H locs ls hB (lv_sub hl [1, 2, 3, 4, 5] rfl)
def zp_X0_followersOf_5b (K5 : Int32 → Int32 → Prop) (P : Int32 → Prop) (k1 : Nat) (x2 : Int32) (x3 : Int32) (x4 : Int32) (I : zz_I) (L : zz_L) : Prop := ((I 14 6) ≤ x4 → P x3) ∧ (¬ (I 14 6) ≤ x4 → vp_in x2 8 ∧ (vp_in x4 8 ∧ (vp_in (((I 18 x2.toNatClampNeg) * (3 : Int32)) + (I 18 x4.toNatClampNeg)) 9 ∧ (∀ v35 : Int32, v35 = I (k1 + 2) (((I 18 x2.toNatClampNeg) * (3 : Int32)) + (I 18 x4.toNatClampNeg)).toNatClampNeg → (vp_in x2 8 ∧ (vp_in x4 8 ∧ ((¬ (I 19 x2.toNatClampNeg) = (I 19 x4.toNatClampNeg) → zp_X0_followersOf_58 K5 P k1 x2 x3 x4 v35 (0 : Int32) I L) ∧ ((I 19 x2.toNatClampNeg) = (I 19 x4.toNatClampNeg) → zp_X0_followersOf_58 K5 P k1 x2 x3 x4 v35 (1 : Int32) I L))))))))
set_option maxHeartbeats 4000000 in
set_option maxRecDepth 100000 in
theorem zq_X0_followersOf_5b {p : Program} {l : Launch} {e : Env} {s : State} {m : MethodId} {args : Array Value} {below : List Frame} {meth : Method} {c : Code} {D : va_G} {ca : Nat → ClassId} {A : Nat → Prop} {a : Nat → Nat} {K5 : Int32 → Int32 → Prop} {P : Int32 → Prop} {I : zz_I} {L : zz_L} {k1 : Nat} {x2 : Int32} {x3 : Int32} {x4 : Int32} (X : zz_X p s m meth c cX0_followersOf RX0 (some .int) 7) (hA : ∀ q, s.heap.size ≤ q → A q) (hk1 : zz_isT k1) (hK5 : ∀ (y3 : Int32) (y4 : Int32), K5 y3 y4 → zz_Go p l e ({ frames := 0, cells := 0, slots := 0, locals := 0 } : Room) s m args below meth c 0 0 (MQ below (zz_Qi D ca zz_dC A a (fun r I9 L9 => P r ∧ I9 = I ∧ L9 = L)) args s 0 0 A) D ca zz_dC A 7 5 a [] [(0, .ref (a 14)), (1, .ref (a k1)), (2, .int x2), (3, .int y3), (4, .int y4)] I L) (h : zp_X0_followersOf_5b K5 P k1 x2 x3 x4 I L) : zz_Go p l e ({ frames := 0, cells := 0, slots := 0, locals := 0 } : Room) s m args below meth c 0 0 (MQ below (zz_Qi D ca zz_dC A a (fun r I9 L9 => P r ∧ I9 = I ∧ L9 = L)) args s 0 0 A) D ca zz_dC A 7 5 a [] [(0, .ref (a 14)), (1, .ref (a k1)), (2, .int x2), (3, .int x3), (4, .int x4)] I L := by
  obtain ⟨hx, hb, hml, hown, zw, hr, hlocks⟩ := id X
  intro H locs ls hB hl
  unfold zp_X0_followersOf_5b at h
  refine lv_iload hx hb dX0_followersOf_5 (lv_at hl 4 rfl) ?_
  refine lv_aload_n hx hb dX0_followersOf_7 rfl (lv_at hl 0 rfl) ?_
  refine zz_geti hx hb hown zw hB zF_X0_72 zdC_14 rfl dX0_followersOf_8 ?_
  refine lv_icmp_ge (tgt := 90) hx hb dX0_followersOf_11 (by decide) (fun c11 => ?_) (fun c11 => ?_)
  · have h := h.1 c11
    refine lv_iload_n hx hb dX0_followersOf_90 rfl (lv_at hl 3 rfl) ?_
    exact zz_iret hx hb hr hlocks hB ⟨h, rfl, rfl⟩ dX0_followersOf_91
  · have h := h.2 c11
    refine lv_aload_n hx hb dX0_followersOf_14 rfl (lv_at hl 1 rfl) ?_
    refine zz_getr (k' := k1 + 2) hx hb hown zw hB zF_X0_97 hk1.1 rfl rfl dX0_followersOf_15 ?_
    refine lv_aload_n hx hb dX0_followersOf_18 rfl (lv_at hl 0 rfl) ?_
    refine zz_getr (k' := 18) hx hb hown zw hB zF_X0_100 zdC_14 rfl rfl dX0_followersOf_19 ?_
    refine lv_iload_n hx hb dX0_followersOf_22 rfl (lv_at hl 2 rfl) ?_
    obtain ⟨hi23, h⟩ := h
    refine zz_iald hx hb hB zdC_18 hi23 dX0_followersOf_23 ?_
    refine lv_iconst (v := (3 : Int32)) hx hb dX0_followersOf_24 (by decide) ?_
    refine lv_imul hx hb dX0_followersOf_25 ?_
    refine lv_aload_n hx hb dX0_followersOf_26 rfl (lv_at hl 0 rfl) ?_
    refine zz_getr (k' := 18) hx hb hown zw hB zF_X0_100 zdC_14 rfl rfl dX0_followersOf_27 ?_
    refine lv_iload hx hb dX0_followersOf_30 (lv_at hl 4 rfl) ?_
    obtain ⟨hi32, h⟩ := h
    refine zz_iald hx hb hB zdC_18 hi32 dX0_followersOf_32 ?_
    refine lv_iadd hx hb dX0_followersOf_33 ?_
    obtain ⟨hi34, h⟩ := h
    refine zz_iald hx hb hB hk1.2.2.1 hi34 dX0_followersOf_34 ?_
    refine lv_topi (fun v35 ev35 => ?_)
    have h := h v35 ev35
    refine lv_istore (lv' := [(5, .int v35), (0, .ref (a 14)), (1, .ref (a k1)), (2, .int x2), (3, .int x3), (4, .int x4)]) hx hb dX0_followersOf_35 hl (by decide) rfl (fun ls hl => ?_)
    refine lv_aload_n hx hb dX0_followersOf_37 rfl (lv_at hl 1 rfl) ?_
    refine zz_getr (k' := 19) hx hb hown zw hB zF_X0_103 zdC_14 rfl rfl dX0_followersOf_38 ?_
    refine lv_iload_n hx hb dX0_followersOf_41 rfl (lv_at hl 3 rfl) ?_
    obtain ⟨hi42, h⟩ := h
    refine zz_iald hx hb hB zdC_19 hi42 dX0_followersOf_42 ?_
    refine lv_aload_n hx hb dX0_followersOf_43 rfl (lv_at hl 1 rfl) ?_
    refine zz_getr (k' := 19) hx hb hown zw hB zF_X0_103 zdC_14 rfl rfl dX0_followersOf_44 ?_
    refine lv_iload hx hb dX0_followersOf_47 (lv_at hl 5 rfl) ?_
    obtain ⟨hi49, h⟩ := h
    refine zz_iald hx hb hB zdC_19 hi49 dX0_followersOf_49 ?_
    refine lv_icmp_ne (tgt := 57) hx hb dX0_followersOf_50 (by decide) (fun c50 => ?_) (fun c50 => ?_)
    · have h := h.1 c50
      refine lv_iconst (v := (0 : Int32)) hx hb dX0_followersOf_57 (by decide) ?_
      exact zq_X0_followersOf_58 X hA hk1 hK5 h H locs ls hB (lv_sub hl [1, 2, 3, 4, 5, 0] rfl)
    · have h := h.2 c50
      refine lv_iconst (v := (1 : Int32)) hx hb dX0_followersOf_53 (by decide) ?_
      refine lv_goto (tgt := 58) hx hb dX0_followersOf_54 (by decide) ?_
      exact zq_X0_followersOf_58 X hA hk1 hK5 h H locs ls hB (lv_sub hl [1, 2, 3, 4, 5, 0] rfl)
def zp_X0_followersOf_5  (P : Int32 → Prop) (k1 : Nat) (x2 : Int32) (x3 : Int32) (x4 : Int32) (I : zz_I) (L : zz_L) : Prop := ∃ (Inv : Int32 → Int32 → Prop) (μ : Int32 → Int32 → Nat), Inv x3 x4 ∧ ∀ (y3 : Int32) (y4 : Int32), Inv y3 y4 → zp_X0_followersOf_5b  (fun z3 z4 => Inv z3 z4 ∧ μ z3 z4 < μ y3 y4) P k1 x2 y3 y4 I L
set_option maxHeartbeats 4000000 in
set_option maxRecDepth 100000 in
theorem zq_X0_followersOf_5 {p : Program} {l : Launch} {e : Env} {s : State} {m : MethodId} {args : Array Value} {below : List Frame} {meth : Method} {c : Code} {D : va_G} {ca : Nat → ClassId} {A : Nat → Prop} {a : Nat → Nat}  {P : Int32 → Prop} {I : zz_I} {L : zz_L} {k1 : Nat} {x2 : Int32} {x3 : Int32} {x4 : Int32} (X : zz_X p s m meth c cX0_followersOf RX0 (some .int) 7) (hA : ∀ q, s.heap.size ≤ q → A q) (hk1 : zz_isT k1)  (h : zp_X0_followersOf_5  P k1 x2 x3 x4 I L) : zz_Go p l e ({ frames := 0, cells := 0, slots := 0, locals := 0 } : Room) s m args below meth c 0 0 (MQ below (zz_Qi D ca zz_dC A a (fun r I9 L9 => P r ∧ I9 = I ∧ L9 = L)) args s 0 0 A) D ca zz_dC A 7 5 a [] [(0, .ref (a 14)), (1, .ref (a k1)), (2, .int x2), (3, .int x3), (4, .int x4)] I L := by
  unfold zp_X0_followersOf_5 at h
  obtain ⟨Inv, μ, hv0, hs⟩ := h
  have key : ∀ (n9 : Nat) (y3 : Int32) (y4 : Int32), μ y3 y4 < n9 → Inv y3 y4 → zz_Go p l e ({ frames := 0, cells := 0, slots := 0, locals := 0 } : Room) s m args below meth c 0 0 (MQ below (zz_Qi D ca zz_dC A a (fun r I9 L9 => P r ∧ I9 = I ∧ L9 = L)) args s 0 0 A) D ca zz_dC A 7 5 a [] [(0, .ref (a 14)), (1, .ref (a k1)), (2, .int x2), (3, .int y3), (4, .int y4)] I L := by
    intro n9
    induction n9 with
    | zero => intro y3 y4 hn; exact absurd hn (Nat.not_lt_zero _)
    | succ n9 ih =>
      intro y3 y4 hn hi
      exact zq_X0_followersOf_5b (K5 := (fun z3 z4 => Inv z3 z4 ∧ μ z3 z4 < μ y3 y4)) X hA hk1  (fun z3 z4 hz => ih z3 z4 (Nat.lt_of_lt_of_le hz.2 (Nat.le_of_lt_succ hn)) hz.1) (hs y3 y4 hi)
  exact key _ x3 x4 (Nat.lt_succ_self _) hv0
def zp_X0_followersOf (k1 : Nat) (x2 : Int32) (P : Int32 → Prop) (I : zz_I) (L : zz_L) : Prop := zp_X0_followersOf_5 P k1 x2 (0 : Int32) (0 : Int32) I L
set_option maxHeartbeats 4000000 in
set_option maxRecDepth 100000 in
theorem zq_X0_followersOf {p : Program} {l : Launch} {e : Env} {s : State} {m : MethodId} {args : Array Value} {below : List Frame} {meth : Method} {c : Code} {D : va_G} {ca : Nat → ClassId} {A : Nat → Prop} {a : Nat → Nat}  {P : Int32 → Prop} {I : zz_I} {L : zz_L} {k1 : Nat} {x2 : Int32} (X : zz_X p s m meth c cX0_followersOf RX0 (some .int) 7) (hA : ∀ q, s.heap.size ≤ q → A q) (hk1 : zz_isT k1)  (h : zp_X0_followersOf k1 x2 P I L) : zz_Go p l e ({ frames := 0, cells := 0, slots := 0, locals := 0 } : Room) s m args below meth c 0 0 (MQ below (zz_Qi D ca zz_dC A a (fun r I9 L9 => P r ∧ I9 = I ∧ L9 = L)) args s 0 0 A) D ca zz_dC A 7 0 a [] [(0, .ref (a 14)), (1, .ref (a k1)), (2, .int x2)] I L := by
  obtain ⟨hx, hb, hml, hown, zw, hr, hlocks⟩ := id X
  intro H locs ls hB hl
  unfold zp_X0_followersOf at h
  refine lv_iconst (v := (0 : Int32)) hx hb dX0_followersOf_0 (by decide) ?_
  refine lv_istore_n (lv' := [(3, .int (0 : Int32)), (0, .ref (a 14)), (1, .ref (a k1)), (2, .int x2)]) hx hb dX0_followersOf_1 rfl hl (by decide) rfl (fun ls hl => ?_)
  refine lv_iconst (v := (0 : Int32)) hx hb dX0_followersOf_2 (by decide) ?_
  refine lv_istore (lv' := [(4, .int (0 : Int32)), (3, .int (0 : Int32)), (0, .ref (a 14)), (1, .ref (a k1)), (2, .int x2)]) hx hb dX0_followersOf_3 hl (by decide) rfl (fun ls hl => ?_)
  exact zq_X0_followersOf_5 X hA hk1 h H locs ls hB (lv_sub hl [2, 3, 4, 1, 0] rfl)
theorem zc_X0_followersOf (l : Launch) (D : va_G) (ca : Nat → ClassId) (a : Nat → Nat) (I : zz_I) (L : zz_L) (sz : Nat) {k1 : Nat} {x2 : Int32} {P : Int32 → Prop} (hk1 : zz_isT k1) (h : zp_X0_followersOf k1 x2 P I L) : Met l yX0_followersOf [.code yX0_followersOf cX0_followersOf 7 (some .int)] ({ frames := 0, cells := 0, slots := 0, locals := 0 } : Room) (zz_Pre D ca zz_dC [.ref (a 14), .ref (a k1), .int x2] a I L sz) (zz_Qi D ca zz_dC (zz_A ca zz_dC a I L sz) a (fun r I9 L9 => P r ∧ I9 = I ∧ L9 = L)) 0 0 (zz_A ca zz_dC a I L sz) :=
  zz_start (by decide) (Nat.le_of_ble_eq_true rfl) (fun p e s m below meth c X hsz hA => zq_X0_followersOf X hA hk1 h)
def zp_X6_hasUnit (k0 : Nat) (x1 : Int32) (P : Int32 → Prop) (I : zz_I) (L : zz_L) : Prop := (x1 < 0 → P (0 : Int32)) ∧ (¬ x1 < 0 → ((I k0 3) ≤ x1 → P (0 : Int32)) ∧ (¬ (I k0 3) ≤ x1 → P (1 : Int32)))
set_option maxHeartbeats 4000000 in
set_option maxRecDepth 100000 in
theorem zq_X6_hasUnit {p : Program} {l : Launch} {e : Env} {s : State} {m : MethodId} {args : Array Value} {below : List Frame} {meth : Method} {c : Code} {D : va_G} {ca : Nat → ClassId} {A : Nat → Prop} {a : Nat → Nat}  {P : Int32 → Prop} {I : zz_I} {L : zz_L} {k0 : Nat} {x1 : Int32} (X : zz_X p s m meth c cX6_hasUnit RX6 (some .boolean) 2) (hA : ∀ q, s.heap.size ≤ q → A q) (hk0 : zz_isT k0)  (h : zp_X6_hasUnit k0 x1 P I L) : zz_Go p l e ({ frames := 0, cells := 0, slots := 0, locals := 0 } : Room) s m args below meth c 0 0 (MQ below (zz_Qi D ca zz_dC A a (fun r I9 L9 => P r ∧ I9 = I ∧ L9 = L)) args s 0 0 A) D ca zz_dC A 2 0 a [] [(0, .ref (a k0)), (1, .int x1)] I L := by
  obtain ⟨hx, hb, hml, hown, zw, hr, hlocks⟩ := id X
  intro H locs ls hB hl
  unfold zp_X6_hasUnit at h
  refine lv_iload_n hx hb dX6_hasUnit_0 rfl (lv_at hl 1 rfl) ?_
  refine lv_if_lt (tgt := 16) hx hb dX6_hasUnit_1 (by decide) (fun c1 => ?_) (fun c1 => ?_)
  · have h := h.1 c1
    refine lv_iconst (v := (0 : Int32)) hx hb dX6_hasUnit_16 (by decide) ?_
    exact zz_zret hx hb hr hlocks zz_bool0 hB ⟨h, rfl, rfl⟩ dX6_hasUnit_17
  · have h := h.2 c1
    refine lv_iload_n hx hb dX6_hasUnit_4 rfl (lv_at hl 1 rfl) ?_
    refine lv_aload_n hx hb dX6_hasUnit_5 rfl (lv_at hl 0 rfl) ?_
    refine zz_geti hx hb hown zw hB zF_X6_21 hk0.1 rfl dX6_hasUnit_6 ?_
    refine lv_icmp_ge (tgt := 16) hx hb dX6_hasUnit_9 (by decide) (fun c9 => ?_) (fun c9 => ?_)
    · have h := h.1 c9
      refine lv_iconst (v := (0 : Int32)) hx hb dX6_hasUnit_16 (by decide) ?_
      exact zz_zret hx hb hr hlocks zz_bool0 hB ⟨h, rfl, rfl⟩ dX6_hasUnit_17
    · have h := h.2 c9
      refine lv_iconst (v := (1 : Int32)) hx hb dX6_hasUnit_12 (by decide) ?_
      refine lv_goto (tgt := 17) hx hb dX6_hasUnit_13 (by decide) ?_
      exact zz_zret hx hb hr hlocks zz_bool1 hB ⟨h, rfl, rfl⟩ dX6_hasUnit_17
theorem zc_X6_hasUnit (l : Launch) (D : va_G) (ca : Nat → ClassId) (a : Nat → Nat) (I : zz_I) (L : zz_L) (sz : Nat) {k0 : Nat} {x1 : Int32} {P : Int32 → Prop} (hk0 : zz_isT k0) (h : zp_X6_hasUnit k0 x1 P I L) : Met l yX6_hasUnit [.code yX6_hasUnit cX6_hasUnit 2 (some .boolean)] ({ frames := 0, cells := 0, slots := 0, locals := 0 } : Room) (zz_Pre D ca zz_dC [.ref (a k0), .int x1] a I L sz) (zz_Qi D ca zz_dC (zz_A ca zz_dC a I L sz) a (fun r I9 L9 => P r ∧ I9 = I ∧ L9 = L)) 0 0 (zz_A ca zz_dC a I L sz) :=
  zz_start (by decide) (Nat.le_of_ble_eq_true rfl) (fun p e s m below meth c X hsz hA => zq_X6_hasUnit X hA hk0 h)
def zp_X6_holdsBlank (k0 : Nat) (x1 : Int32) (P : Int32 → Prop) (I : zz_I) (L : zz_L) : Prop := zp_X6_hasUnit k0 x1 (fun r2 => (r2 = 0 → P (0 : Int32)) ∧ (¬ r2 = 0 → vp_in x1 24 ∧ (((I (k0 + 1) x1.toNatClampNeg) = (6 : Int32) → P (1 : Int32)) ∧ (¬ (I (k0 + 1) x1.toNatClampNeg) = (6 : Int32) → vp_in x1 24 ∧ ((¬ (I (k0 + 1) x1.toNatClampNeg) = (7 : Int32) → P (0 : Int32)) ∧ ((I (k0 + 1) x1.toNatClampNeg) = (7 : Int32) → P (1 : Int32))))))) I L
set_option maxHeartbeats 4000000 in
set_option maxRecDepth 100000 in
theorem zq_X6_holdsBlank {p : Program} {l : Launch} {e : Env} {s : State} {m : MethodId} {args : Array Value} {below : List Frame} {meth : Method} {c : Code} {D : va_G} {ca : Nat → ClassId} {A : Nat → Prop} {a : Nat → Nat}  {P : Int32 → Prop} {I : zz_I} {L : zz_L} {k0 : Nat} {x1 : Int32} (X : zz_X p s m meth c cX6_holdsBlank RX6 (some .boolean) 2) (hA : ∀ q, s.heap.size ≤ q → A q) (hk0 : zz_isT k0)  (h : zp_X6_holdsBlank k0 x1 P I L) : zz_Go p l e ({ frames := 1, cells := 0, slots := 0, locals := 21 } : Room) s m args below meth c 0 0 (MQ below (zz_Qi D ca zz_dC A a (fun r I9 L9 => P r ∧ I9 = I ∧ L9 = L)) args s 0 0 A) D ca zz_dC A 2 0 a [] [(0, .ref (a k0)), (1, .int x1)] I L := by
  obtain ⟨hx, hb, hml, hown, zw, hr, hlocks⟩ := id X
  intro H locs ls hB hl
  unfold zp_X6_holdsBlank at h
  refine lv_aload_n hx hb dX6_holdsBlank_0 rfl (lv_at hl 0 rfl) ?_
  refine lv_iload_n hx hb dX6_holdsBlank_1 rfl (lv_at hl 1 rfl) ?_
  refine zz_goip hB hA (zz_runV (As := [.int x1]) (rest := []) hx hb hml hown zw hB zM_X6_40 (zc_X6_hasUnit l D ca a I L H.size hk0 h) hk0.1 rfl rfl hl.1 rfl (Nat.le_of_ble_eq_true rfl) rfl rfl ⟨Nat.le_of_ble_eq_true rfl, Nat.le_of_ble_eq_true rfl⟩ dX6_holdsBlank_2 ⟨Nat.le_of_ble_eq_true rfl, Nat.le_of_ble_eq_true rfl⟩) (fun r2 H locs h hB => ?_)
  refine lv_if_eq (tgt := 34) hx hb dX6_holdsBlank_5 (by decide) (fun c5 => ?_) (fun c5 => ?_)
  · have h := h.1 c5
    refine lv_iconst (v := (0 : Int32)) hx hb dX6_holdsBlank_34 (by decide) ?_
    exact zz_zret hx hb hr hlocks zz_bool0 hB ⟨h, rfl, rfl⟩ dX6_holdsBlank_35
  · have h := h.2 c5
    refine lv_aload_n hx hb dX6_holdsBlank_8 rfl (lv_at hl 0 rfl) ?_
    refine zz_getr (k' := k0 + 1) hx hb hown zw hB zF_X6_9 hk0.1 rfl rfl dX6_holdsBlank_9 ?_
    refine lv_iload_n hx hb dX6_holdsBlank_12 rfl (lv_at hl 1 rfl) ?_
    obtain ⟨hi13, h⟩ := h
    refine zz_iald hx hb hB hk0.2.1 hi13 dX6_holdsBlank_13 ?_
    refine lv_bipush (v := (6 : Int32)) hx hb dX6_holdsBlank_14 (by decide) ?_
    refine lv_icmp_eq (tgt := 30) hx hb dX6_holdsBlank_16 (by decide) (fun c16 => ?_) (fun c16 => ?_)
    · have h := h.1 c16
      refine lv_iconst (v := (1 : Int32)) hx hb dX6_holdsBlank_30 (by decide) ?_
      refine lv_goto (tgt := 35) hx hb dX6_holdsBlank_31 (by decide) ?_
      exact zz_zret hx hb hr hlocks zz_bool1 hB ⟨h, rfl, rfl⟩ dX6_holdsBlank_35
    · have h := h.2 c16
      refine lv_aload_n hx hb dX6_holdsBlank_19 rfl (lv_at hl 0 rfl) ?_
      refine zz_getr (k' := k0 + 1) hx hb hown zw hB zF_X6_9 hk0.1 rfl rfl dX6_holdsBlank_20 ?_
      refine lv_iload_n hx hb dX6_holdsBlank_23 rfl (lv_at hl 1 rfl) ?_
      obtain ⟨hi24, h⟩ := h
      refine zz_iald hx hb hB hk0.2.1 hi24 dX6_holdsBlank_24 ?_
      refine lv_bipush (v := (7 : Int32)) hx hb dX6_holdsBlank_25 (by decide) ?_
      refine lv_icmp_ne (tgt := 34) hx hb dX6_holdsBlank_27 (by decide) (fun c27 => ?_) (fun c27 => ?_)
      · have h := h.1 c27
        refine lv_iconst (v := (0 : Int32)) hx hb dX6_holdsBlank_34 (by decide) ?_
        exact zz_zret hx hb hr hlocks zz_bool0 hB ⟨h, rfl, rfl⟩ dX6_holdsBlank_35
      · have h := h.2 c27
        refine lv_iconst (v := (1 : Int32)) hx hb dX6_holdsBlank_30 (by decide) ?_
        refine lv_goto (tgt := 35) hx hb dX6_holdsBlank_31 (by decide) ?_
        exact zz_zret hx hb hr hlocks zz_bool1 hB ⟨h, rfl, rfl⟩ dX6_holdsBlank_35
theorem zc_X6_holdsBlank (l : Launch) (D : va_G) (ca : Nat → ClassId) (a : Nat → Nat) (I : zz_I) (L : zz_L) (sz : Nat) {k0 : Nat} {x1 : Int32} {P : Int32 → Prop} (hk0 : zz_isT k0) (h : zp_X6_holdsBlank k0 x1 P I L) : Met l yX6_holdsBlank [.code yX6_holdsBlank cX6_holdsBlank 2 (some .boolean)] ({ frames := 1, cells := 0, slots := 0, locals := 21 } : Room) (zz_Pre D ca zz_dC [.ref (a k0), .int x1] a I L sz) (zz_Qi D ca zz_dC (zz_A ca zz_dC a I L sz) a (fun r I9 L9 => P r ∧ I9 = I ∧ L9 = L)) 0 0 (zz_A ca zz_dC a I L sz) :=
  zz_start (by decide) (Nat.le_of_ble_eq_true rfl) (fun p e s m below meth c X hsz hA => zq_X6_holdsBlank X hA hk0 h)
def zp_X2_hasWord (x1 : Int32) (P : Int32 → Prop) (I : zz_I) (L : zz_L) : Prop := (x1 < 0 → P (0 : Int32)) ∧ (¬ x1 < 0 → ((I 14 6) ≤ x1 → P (0 : Int32)) ∧ (¬ (I 14 6) ≤ x1 → P (1 : Int32)))
set_option maxHeartbeats 4000000 in
set_option maxRecDepth 100000 in
theorem zq_X2_hasWord {p : Program} {l : Launch} {e : Env} {s : State} {m : MethodId} {args : Array Value} {below : List Frame} {meth : Method} {c : Code} {D : va_G} {ca : Nat → ClassId} {A : Nat → Prop} {a : Nat → Nat}  {P : Int32 → Prop} {I : zz_I} {L : zz_L} {x1 : Int32} (X : zz_X p s m meth c cX2_hasWord RX2 (some .boolean) 2) (hA : ∀ q, s.heap.size ≤ q → A q)   (h : zp_X2_hasWord x1 P I L) : zz_Go p l e ({ frames := 0, cells := 0, slots := 0, locals := 0 } : Room) s m args below meth c 0 0 (MQ below (zz_Qi D ca zz_dC A a (fun r I9 L9 => P r ∧ I9 = I ∧ L9 = L)) args s 0 0 A) D ca zz_dC A 2 0 a [] [(0, .ref (a 14)), (1, .int x1)] I L := by
  obtain ⟨hx, hb, hml, hown, zw, hr, hlocks⟩ := id X
  intro H locs ls hB hl
  unfold zp_X2_hasWord at h
  refine lv_iload_n hx hb dX2_hasWord_0 rfl (lv_at hl 1 rfl) ?_
  refine lv_if_lt (tgt := 16) hx hb dX2_hasWord_1 (by decide) (fun c1 => ?_) (fun c1 => ?_)
  · have h := h.1 c1
    refine lv_iconst (v := (0 : Int32)) hx hb dX2_hasWord_16 (by decide) ?_
    exact zz_zret hx hb hr hlocks zz_bool0 hB ⟨h, rfl, rfl⟩ dX2_hasWord_17
  · have h := h.2 c1
    refine lv_iload_n hx hb dX2_hasWord_4 rfl (lv_at hl 1 rfl) ?_
    refine lv_aload_n hx hb dX2_hasWord_5 rfl (lv_at hl 0 rfl) ?_
    refine zz_geti hx hb hown zw hB zF_X2_30 zdC_14 rfl dX2_hasWord_6 ?_
    refine lv_icmp_ge (tgt := 16) hx hb dX2_hasWord_9 (by decide) (fun c9 => ?_) (fun c9 => ?_)
    · have h := h.1 c9
      refine lv_iconst (v := (0 : Int32)) hx hb dX2_hasWord_16 (by decide) ?_
      exact zz_zret hx hb hr hlocks zz_bool0 hB ⟨h, rfl, rfl⟩ dX2_hasWord_17
    · have h := h.2 c9
      refine lv_iconst (v := (1 : Int32)) hx hb dX2_hasWord_12 (by decide) ?_
      refine lv_goto (tgt := 17) hx hb dX2_hasWord_13 (by decide) ?_
      exact zz_zret hx hb hr hlocks zz_bool1 hB ⟨h, rfl, rfl⟩ dX2_hasWord_17
theorem zc_X2_hasWord (l : Launch) (D : va_G) (ca : Nat → ClassId) (a : Nat → Nat) (I : zz_I) (L : zz_L) (sz : Nat) {x1 : Int32} {P : Int32 → Prop}  (h : zp_X2_hasWord x1 P I L) : Met l yX2_hasWord [.code yX2_hasWord cX2_hasWord 2 (some .boolean)] ({ frames := 0, cells := 0, slots := 0, locals := 0 } : Room) (zz_Pre D ca zz_dC [.ref (a 14), .int x1] a I L sz) (zz_Qi D ca zz_dC (zz_A ca zz_dC a I L sz) a (fun r I9 L9 => P r ∧ I9 = I ∧ L9 = L)) 0 0 (zz_A ca zz_dC a I L sz) :=
  zz_start (by decide) (Nat.le_of_ble_eq_true rfl) (fun p e s m below meth c X hsz hA => zq_X2_hasWord X hA  h)
def zp_X2_letterOf_26  (P : Int32 → Prop) (x1 : Int32) (x2 : Int32) (s0 : Int32) (I : zz_I) (L : zz_L) : Prop := (s0 = 0 → P (-9 : Int32)) ∧ (¬ s0 = 0 → vp_in ((x1 * (5 : Int32)) + x2) 40 ∧ (P (I 16 ((x1 * (5 : Int32)) + x2).toNatClampNeg)))
set_option maxHeartbeats 4000000 in
set_option maxRecDepth 100000 in
theorem zq_X2_letterOf_26 {p : Program} {l : Launch} {e : Env} {s : State} {m : MethodId} {args : Array Value} {below : List Frame} {meth : Method} {c : Code} {D : va_G} {ca : Nat → ClassId} {A : Nat → Prop} {a : Nat → Nat}  {P : Int32 → Prop} {I : zz_I} {L : zz_L} {x1 : Int32} {x2 : Int32} {s0 : Int32} (X : zz_X p s m meth c cX2_letterOf RX2 (some .int) 4) (hA : ∀ q, s.heap.size ≤ q → A q)   (h : zp_X2_letterOf_26  P x1 x2 s0 I L) : zz_Go p l e ({ frames := 0, cells := 0, slots := 0, locals := 0 } : Room) s m args below meth c 0 0 (MQ below (zz_Qi D ca zz_dC A a (fun r I9 L9 => P r ∧ I9 = I ∧ L9 = L)) args s 0 0 A) D ca zz_dC A 4 26 a [.int s0] [(0, .ref (a 14)), (1, .int x1), (2, .int x2)] I L := by
  obtain ⟨hx, hb, hml, hown, zw, hr, hlocks⟩ := id X
  intro H locs ls hB hl
  unfold zp_X2_letterOf_26 at h
  refine lv_istore_n (lv' := [(3, .int s0), (0, .ref (a 14)), (1, .int x1), (2, .int x2)]) hx hb dX2_letterOf_26 rfl hl (by decide) rfl (fun ls hl => ?_)
  refine lv_iload_n hx hb dX2_letterOf_27 rfl (lv_at hl 0 rfl) ?_
  refine lv_if_eq (tgt := 44) hx hb dX2_letterOf_28 (by decide) (fun c28 => ?_) (fun c28 => ?_)
  · have h := h.1 c28
    refine lv_bipush (v := (-9 : Int32)) hx hb dX2_letterOf_44 (by decide) ?_
    exact zz_iret hx hb hr hlocks hB ⟨h, rfl, rfl⟩ dX2_letterOf_46
  · have h := h.2 c28
    refine lv_aload_n hx hb dX2_letterOf_31 rfl (lv_at hl 1 rfl) ?_
    refine zz_getr (k' := 16) hx hb hown zw hB zF_X2_15 zdC_14 rfl rfl dX2_letterOf_32 ?_
    refine lv_iload_n hx hb dX2_letterOf_35 rfl (lv_at hl 2 rfl) ?_
    refine lv_iconst (v := (5 : Int32)) hx hb dX2_letterOf_36 (by decide) ?_
    refine lv_imul hx hb dX2_letterOf_37 ?_
    refine lv_iload_n hx hb dX2_letterOf_38 rfl (lv_at hl 3 rfl) ?_
    refine lv_iadd hx hb dX2_letterOf_39 ?_
    obtain ⟨hi40, h⟩ := h
    refine zz_iald hx hb hB zdC_16 hi40 dX2_letterOf_40 ?_
    refine lv_goto (tgt := 46) hx hb dX2_letterOf_41 (by decide) ?_
    exact zz_iret hx hb hr hlocks hB ⟨h, rfl, rfl⟩ dX2_letterOf_46
def zp_X2_letterOf (x1 : Int32) (x2 : Int32) (P : Int32 → Prop) (I : zz_I) (L : zz_L) : Prop := (x1 < 0 → zp_X2_letterOf_26 P x1 x2 (0 : Int32) I L) ∧ (¬ x1 < 0 → ((I 14 6) ≤ x1 → zp_X2_letterOf_26 P x1 x2 (0 : Int32) I L) ∧ (¬ (I 14 6) ≤ x1 → (x2 < 0 → zp_X2_letterOf_26 P x1 x2 (0 : Int32) I L) ∧ (¬ x2 < 0 → ((5 : Int32) ≤ x2 → zp_X2_letterOf_26 P x1 x2 (0 : Int32) I L) ∧ (¬ (5 : Int32) ≤ x2 → zp_X2_letterOf_26 P x1 x2 (1 : Int32) I L))))
set_option maxHeartbeats 4000000 in
set_option maxRecDepth 100000 in
theorem zq_X2_letterOf {p : Program} {l : Launch} {e : Env} {s : State} {m : MethodId} {args : Array Value} {below : List Frame} {meth : Method} {c : Code} {D : va_G} {ca : Nat → ClassId} {A : Nat → Prop} {a : Nat → Nat}  {P : Int32 → Prop} {I : zz_I} {L : zz_L} {x1 : Int32} {x2 : Int32} (X : zz_X p s m meth c cX2_letterOf RX2 (some .int) 4) (hA : ∀ q, s.heap.size ≤ q → A q)   (h : zp_X2_letterOf x1 x2 P I L) : zz_Go p l e ({ frames := 0, cells := 0, slots := 0, locals := 0 } : Room) s m args below meth c 0 0 (MQ below (zz_Qi D ca zz_dC A a (fun r I9 L9 => P r ∧ I9 = I ∧ L9 = L)) args s 0 0 A) D ca zz_dC A 4 0 a [] [(0, .ref (a 14)), (1, .int x1), (2, .int x2)] I L := by
  obtain ⟨hx, hb, hml, hown, zw, hr, hlocks⟩ := id X
  intro H locs ls hB hl
  unfold zp_X2_letterOf at h
  refine lv_iload_n hx hb dX2_letterOf_0 rfl (lv_at hl 1 rfl) ?_
  refine lv_if_lt (tgt := 25) hx hb dX2_letterOf_1 (by decide) (fun c1 => ?_) (fun c1 => ?_)
  · have h := h.1 c1
    refine lv_iconst (v := (0 : Int32)) hx hb dX2_letterOf_25 (by decide) ?_
    exact zq_X2_letterOf_26 X hA  h H locs ls hB (lv_sub hl [0, 1, 2] rfl)
  · have h := h.2 c1
    refine lv_iload_n hx hb dX2_letterOf_4 rfl (lv_at hl 1 rfl) ?_
    refine lv_aload_n hx hb dX2_letterOf_5 rfl (lv_at hl 0 rfl) ?_
    refine zz_geti hx hb hown zw hB zF_X2_30 zdC_14 rfl dX2_letterOf_6 ?_
    refine lv_icmp_ge (tgt := 25) hx hb dX2_letterOf_9 (by decide) (fun c9 => ?_) (fun c9 => ?_)
    · have h := h.1 c9
      refine lv_iconst (v := (0 : Int32)) hx hb dX2_letterOf_25 (by decide) ?_
      exact zq_X2_letterOf_26 X hA  h H locs ls hB (lv_sub hl [0, 1, 2] rfl)
    · have h := h.2 c9
      refine lv_iload_n hx hb dX2_letterOf_12 rfl (lv_at hl 2 rfl) ?_
      refine lv_if_lt (tgt := 25) hx hb dX2_letterOf_13 (by decide) (fun c13 => ?_) (fun c13 => ?_)
      · have h := h.1 c13
        refine lv_iconst (v := (0 : Int32)) hx hb dX2_letterOf_25 (by decide) ?_
        exact zq_X2_letterOf_26 X hA  h H locs ls hB (lv_sub hl [0, 1, 2] rfl)
      · have h := h.2 c13
        refine lv_iload_n hx hb dX2_letterOf_16 rfl (lv_at hl 2 rfl) ?_
        refine lv_iconst (v := (5 : Int32)) hx hb dX2_letterOf_17 (by decide) ?_
        refine lv_icmp_ge (tgt := 25) hx hb dX2_letterOf_18 (by decide) (fun c18 => ?_) (fun c18 => ?_)
        · have h := h.1 c18
          refine lv_iconst (v := (0 : Int32)) hx hb dX2_letterOf_25 (by decide) ?_
          exact zq_X2_letterOf_26 X hA  h H locs ls hB (lv_sub hl [0, 1, 2] rfl)
        · have h := h.2 c18
          refine lv_iconst (v := (1 : Int32)) hx hb dX2_letterOf_21 (by decide) ?_
          refine lv_goto (tgt := 26) hx hb dX2_letterOf_22 (by decide) ?_
          exact zq_X2_letterOf_26 X hA  h H locs ls hB (lv_sub hl [0, 1, 2] rfl)
theorem zc_X2_letterOf (l : Launch) (D : va_G) (ca : Nat → ClassId) (a : Nat → Nat) (I : zz_I) (L : zz_L) (sz : Nat) {x1 : Int32} {x2 : Int32} {P : Int32 → Prop}  (h : zp_X2_letterOf x1 x2 P I L) : Met l yX2_letterOf [.code yX2_letterOf cX2_letterOf 4 (some .int)] ({ frames := 0, cells := 0, slots := 0, locals := 0 } : Room) (zz_Pre D ca zz_dC [.ref (a 14), .int x1, .int x2] a I L sz) (zz_Qi D ca zz_dC (zz_A ca zz_dC a I L sz) a (fun r I9 L9 => P r ∧ I9 = I ∧ L9 = L)) 0 0 (zz_A ca zz_dC a I L sz) :=
  zz_start (by decide) (Nat.le_of_ble_eq_true rfl) (fun p e s m below meth c X hsz hA => zq_X2_letterOf X hA  h)
def zp_X2_widthOf (k0 : Nat) (x1 : Int32) (P : Int32 → Prop) (I : zz_I) (L : zz_L) : Prop := (x1 < 0 → P (1 : Int32)) ∧ (¬ x1 < 0 → ((7 : Int32) ≤ x1 → P (1 : Int32)) ∧ (¬ (7 : Int32) ≤ x1 → vp_in x1 7 ∧ (P (I (k0 + 1) x1.toNatClampNeg))))
set_option maxHeartbeats 4000000 in
set_option maxRecDepth 100000 in
theorem zq_X2_widthOf {p : Program} {l : Launch} {e : Env} {s : State} {m : MethodId} {args : Array Value} {below : List Frame} {meth : Method} {c : Code} {D : va_G} {ca : Nat → ClassId} {A : Nat → Prop} {a : Nat → Nat}  {P : Int32 → Prop} {I : zz_I} {L : zz_L} {k0 : Nat} {x1 : Int32} (X : zz_X p s m meth c cX2_widthOf RX2 (some .int) 2) (hA : ∀ q, s.heap.size ≤ q → A q) (hk0 : zz_isX k0)  (h : zp_X2_widthOf k0 x1 P I L) : zz_Go p l e ({ frames := 0, cells := 0, slots := 0, locals := 0 } : Room) s m args below meth c 0 0 (MQ below (zz_Qi D ca zz_dC A a (fun r I9 L9 => P r ∧ I9 = I ∧ L9 = L)) args s 0 0 A) D ca zz_dC A 2 0 a [] [(0, .ref (a k0)), (1, .int x1)] I L := by
  obtain ⟨hx, hb, hml, hown, zw, hr, hlocks⟩ := id X
  intro H locs ls hB hl
  unfold zp_X2_widthOf at h
  refine lv_iload_n hx hb dX2_widthOf_0 rfl (lv_at hl 1 rfl) ?_
  refine lv_if_lt (tgt := 19) hx hb dX2_widthOf_1 (by decide) (fun c1 => ?_) (fun c1 => ?_)
  · have h := h.1 c1
    refine lv_iconst (v := (1 : Int32)) hx hb dX2_widthOf_19 (by decide) ?_
    exact zz_iret hx hb hr hlocks hB ⟨h, rfl, rfl⟩ dX2_widthOf_20
  · have h := h.2 c1
    refine lv_iload_n hx hb dX2_widthOf_4 rfl (lv_at hl 1 rfl) ?_
    refine lv_bipush (v := (7 : Int32)) hx hb dX2_widthOf_5 (by decide) ?_
    refine lv_icmp_ge (tgt := 19) hx hb dX2_widthOf_7 (by decide) (fun c7 => ?_) (fun c7 => ?_)
    · have h := h.1 c7
      refine lv_iconst (v := (1 : Int32)) hx hb dX2_widthOf_19 (by decide) ?_
      exact zz_iret hx hb hr hlocks hB ⟨h, rfl, rfl⟩ dX2_widthOf_20
    · have h := h.2 c7
      refine lv_aload_n hx hb dX2_widthOf_10 rfl (lv_at hl 0 rfl) ?_
      refine zz_getr (k' := k0 + 1) hx hb hown zw hB zF_X2_9 hk0.1 rfl rfl dX2_widthOf_11 ?_
      refine lv_iload_n hx hb dX2_widthOf_14 rfl (lv_at hl 1 rfl) ?_
      obtain ⟨hi15, h⟩ := h
      refine zz_iald hx hb hB hk0.2.1 hi15 dX2_widthOf_15 ?_
      refine lv_goto (tgt := 20) hx hb dX2_widthOf_16 (by decide) ?_
      exact zz_iret hx hb hr hlocks hB ⟨h, rfl, rfl⟩ dX2_widthOf_20
theorem zc_X2_widthOf (l : Launch) (D : va_G) (ca : Nat → ClassId) (a : Nat → Nat) (I : zz_I) (L : zz_L) (sz : Nat) {k0 : Nat} {x1 : Int32} {P : Int32 → Prop} (hk0 : zz_isX k0) (h : zp_X2_widthOf k0 x1 P I L) : Met l yX2_widthOf [.code yX2_widthOf cX2_widthOf 2 (some .int)] ({ frames := 0, cells := 0, slots := 0, locals := 0 } : Room) (zz_Pre D ca zz_dC [.ref (a k0), .int x1] a I L sz) (zz_Qi D ca zz_dC (zz_A ca zz_dC a I L sz) a (fun r I9 L9 => P r ∧ I9 = I ∧ L9 = L)) 0 0 (zz_A ca zz_dC a I L sz) :=
  zz_start (by decide) (Nat.le_of_ble_eq_true rfl) (fun p e s m below meth c X hsz hA => zq_X2_widthOf X hA hk0 h)
def zp_X6_isFree_18b (K18 : Int32 → Prop) (P : Int32 → Prop) (k0 : Nat) (x1 : Int32) (x2 : Int32) (x3 : Int32) (I : zz_I) (L : zz_L) : Prop := (x2 ≤ x3 → P (1 : Int32)) ∧ (¬ x2 ≤ x3 → vp_in (x1 + x3) 24 ∧ (((I (k0 + 1) (x1 + x3).toNatClampNeg) = (7 : Int32) → ∀ v38 : Int32, v38 = x3 + (1 : Int32) → (K18 v38)) ∧ (¬ (I (k0 + 1) (x1 + x3).toNatClampNeg) = (7 : Int32) → P (0 : Int32))))
set_option maxHeartbeats 4000000 in
set_option maxRecDepth 100000 in
theorem zq_X6_isFree_18b {p : Program} {l : Launch} {e : Env} {s : State} {m : MethodId} {args : Array Value} {below : List Frame} {meth : Method} {c : Code} {D : va_G} {ca : Nat → ClassId} {A : Nat → Prop} {a : Nat → Nat} {K18 : Int32 → Prop} {P : Int32 → Prop} {I : zz_I} {L : zz_L} {k0 : Nat} {x1 : Int32} {x2 : Int32} {x3 : Int32} (X : zz_X p s m meth c cX6_isFree RX6 (some .boolean) 4) (hA : ∀ q, s.heap.size ≤ q → A q) (hk0 : zz_isT k0) (hK18 : ∀ (y3 : Int32), K18 y3 → zz_Go p l e ({ frames := 0, cells := 0, slots := 0, locals := 0 } : Room) s m args below meth c 0 0 (MQ below (zz_Qi D ca zz_dC A a (fun r I9 L9 => P r ∧ I9 = I ∧ L9 = L)) args s 0 0 A) D ca zz_dC A 4 18 a [] [(0, .ref (a k0)), (1, .int x1), (2, .int x2), (3, .int y3)] I L) (h : zp_X6_isFree_18b K18 P k0 x1 x2 x3 I L) : zz_Go p l e ({ frames := 0, cells := 0, slots := 0, locals := 0 } : Room) s m args below meth c 0 0 (MQ below (zz_Qi D ca zz_dC A a (fun r I9 L9 => P r ∧ I9 = I ∧ L9 = L)) args s 0 0 A) D ca zz_dC A 4 18 a [] [(0, .ref (a k0)), (1, .int x1), (2, .int x2), (3, .int x3)] I L := by
  obtain ⟨hx, hb, hml, hown, zw, hr, hlocks⟩ := id X
  intro H locs ls hB hl
  unfold zp_X6_isFree_18b at h
  refine lv_iload_n hx hb dX6_isFree_18 rfl (lv_at hl 3 rfl) ?_
  refine lv_iload_n hx hb dX6_isFree_19 rfl (lv_at hl 2 rfl) ?_
  refine lv_icmp_ge (tgt := 44) hx hb dX6_isFree_20 (by decide) (fun c20 => ?_) (fun c20 => ?_)
  · have h := h.1 c20
    refine lv_iconst (v := (1 : Int32)) hx hb dX6_isFree_44 (by decide) ?_
    exact zz_zret hx hb hr hlocks zz_bool1 hB ⟨h, rfl, rfl⟩ dX6_isFree_45
  · have h := h.2 c20
    refine lv_aload_n hx hb dX6_isFree_23 rfl (lv_at hl 0 rfl) ?_
    refine zz_getr (k' := k0 + 1) hx hb hown zw hB zF_X6_9 hk0.1 rfl rfl dX6_isFree_24 ?_
    refine lv_iload_n hx hb dX6_isFree_27 rfl (lv_at hl 1 rfl) ?_
    refine lv_iload_n hx hb dX6_isFree_28 rfl (lv_at hl 3 rfl) ?_
    refine lv_iadd hx hb dX6_isFree_29 ?_
    obtain ⟨hi30, h⟩ := h
    refine zz_iald hx hb hB hk0.2.1 hi30 dX6_isFree_30 ?_
    refine lv_bipush (v := (7 : Int32)) hx hb dX6_isFree_31 (by decide) ?_
    refine lv_icmp_eq (tgt := 38) hx hb dX6_isFree_33 (by decide) (fun c33 => ?_) (fun c33 => ?_)
    · have h := h.1 c33
      obtain ⟨v38, ev38⟩ : ∃ z : Int32, z = x3 + (1 : Int32) := ⟨_, rfl⟩
      have h := h v38 ev38
      refine lv_iinc (v := v38) (lv' := [(3, .int v38), (0, .ref (a k0)), (1, .int x1), (2, .int x2)]) hx hb dX6_isFree_38 hl (k := 3) rfl (by rw [ev38]; rfl) (by decide) rfl (fun ls hl => ?_)
      refine lv_goto (tgt := 18) hx hb dX6_isFree_41 (by decide) ?_
      exact hK18 _ h H locs ls hB (lv_sub hl [1, 2, 3, 0] rfl)
    · have h := h.2 c33
      refine lv_iconst (v := (0 : Int32)) hx hb dX6_isFree_36 (by decide) ?_
      exact zz_zret hx hb hr hlocks zz_bool0 hB ⟨h, rfl, rfl⟩ dX6_isFree_37
def zp_X6_isFree_18  (P : Int32 → Prop) (k0 : Nat) (x1 : Int32) (x2 : Int32) (x3 : Int32) (I : zz_I) (L : zz_L) : Prop := ∃ (Inv : Int32 → Prop) (μ : Int32 → Nat), Inv x3 ∧ ∀ (y3 : Int32), Inv y3 → zp_X6_isFree_18b  (fun z3 => Inv z3 ∧ μ z3 < μ y3) P k0 x1 x2 y3 I L
set_option maxHeartbeats 4000000 in
set_option maxRecDepth 100000 in
theorem zq_X6_isFree_18 {p : Program} {l : Launch} {e : Env} {s : State} {m : MethodId} {args : Array Value} {below : List Frame} {meth : Method} {c : Code} {D : va_G} {ca : Nat → ClassId} {A : Nat → Prop} {a : Nat → Nat}  {P : Int32 → Prop} {I : zz_I} {L : zz_L} {k0 : Nat} {x1 : Int32} {x2 : Int32} {x3 : Int32} (X : zz_X p s m meth c cX6_isFree RX6 (some .boolean) 4) (hA : ∀ q, s.heap.size ≤ q → A q) (hk0 : zz_isT k0)  (h : zp_X6_isFree_18  P k0 x1 x2 x3 I L) : zz_Go p l e ({ frames := 0, cells := 0, slots := 0, locals := 0 } : Room) s m args below meth c 0 0 (MQ below (zz_Qi D ca zz_dC A a (fun r I9 L9 => P r ∧ I9 = I ∧ L9 = L)) args s 0 0 A) D ca zz_dC A 4 18 a [] [(0, .ref (a k0)), (1, .int x1), (2, .int x2), (3, .int x3)] I L := by
  unfold zp_X6_isFree_18 at h
  obtain ⟨Inv, μ, hv0, hs⟩ := h
  have key : ∀ (n9 : Nat) (y3 : Int32), μ y3 < n9 → Inv y3 → zz_Go p l e ({ frames := 0, cells := 0, slots := 0, locals := 0 } : Room) s m args below meth c 0 0 (MQ below (zz_Qi D ca zz_dC A a (fun r I9 L9 => P r ∧ I9 = I ∧ L9 = L)) args s 0 0 A) D ca zz_dC A 4 18 a [] [(0, .ref (a k0)), (1, .int x1), (2, .int x2), (3, .int y3)] I L := by
    intro n9
    induction n9 with
    | zero => intro y3 hn; exact absurd hn (Nat.not_lt_zero _)
    | succ n9 ih =>
      intro y3 hn hi
      exact zq_X6_isFree_18b (K18 := (fun z3 => Inv z3 ∧ μ z3 < μ y3)) X hA hk0  (fun z3 hz => ih z3 (Nat.lt_of_lt_of_le hz.2 (Nat.le_of_lt_succ hn)) hz.1) (hs y3 hi)
  exact key _ x3 (Nat.lt_succ_self _) hv0
def zp_X6_isFree (k0 : Nat) (x1 : Int32) (x2 : Int32) (P : Int32 → Prop) (I : zz_I) (L : zz_L) : Prop := (x1 < 0 → P (0 : Int32)) ∧ (¬ x1 < 0 → ((x1 + x2) ≤ (I k0 3) → zp_X6_isFree_18 P k0 x1 x2 (0 : Int32) I L) ∧ (¬ (x1 + x2) ≤ (I k0 3) → P (0 : Int32)))
set_option maxHeartbeats 4000000 in
set_option maxRecDepth 100000 in
theorem zq_X6_isFree {p : Program} {l : Launch} {e : Env} {s : State} {m : MethodId} {args : Array Value} {below : List Frame} {meth : Method} {c : Code} {D : va_G} {ca : Nat → ClassId} {A : Nat → Prop} {a : Nat → Nat}  {P : Int32 → Prop} {I : zz_I} {L : zz_L} {k0 : Nat} {x1 : Int32} {x2 : Int32} (X : zz_X p s m meth c cX6_isFree RX6 (some .boolean) 4) (hA : ∀ q, s.heap.size ≤ q → A q) (hk0 : zz_isT k0)  (h : zp_X6_isFree k0 x1 x2 P I L) : zz_Go p l e ({ frames := 0, cells := 0, slots := 0, locals := 0 } : Room) s m args below meth c 0 0 (MQ below (zz_Qi D ca zz_dC A a (fun r I9 L9 => P r ∧ I9 = I ∧ L9 = L)) args s 0 0 A) D ca zz_dC A 4 0 a [] [(0, .ref (a k0)), (1, .int x1), (2, .int x2)] I L := by
  obtain ⟨hx, hb, hml, hown, zw, hr, hlocks⟩ := id X
  intro H locs ls hB hl
  unfold zp_X6_isFree at h
  refine lv_iload_n hx hb dX6_isFree_0 rfl (lv_at hl 1 rfl) ?_
  refine lv_if_lt (tgt := 14) hx hb dX6_isFree_1 (by decide) (fun c1 => ?_) (fun c1 => ?_)
  · have h := h.1 c1
    refine lv_iconst (v := (0 : Int32)) hx hb dX6_isFree_14 (by decide) ?_
    exact zz_zret hx hb hr hlocks zz_bool0 hB ⟨h, rfl, rfl⟩ dX6_isFree_15
  · have h := h.2 c1
    refine lv_iload_n hx hb dX6_isFree_4 rfl (lv_at hl 1 rfl) ?_
    refine lv_iload_n hx hb dX6_isFree_5 rfl (lv_at hl 2 rfl) ?_
    refine lv_iadd hx hb dX6_isFree_6 ?_
    refine lv_aload_n hx hb dX6_isFree_7 rfl (lv_at hl 0 rfl) ?_
    refine zz_geti hx hb hown zw hB zF_X6_21 hk0.1 rfl dX6_isFree_8 ?_
    refine lv_icmp_le (tgt := 16) hx hb dX6_isFree_11 (by decide) (fun c11 => ?_) (fun c11 => ?_)
    · have h := h.1 c11
      refine lv_iconst (v := (0 : Int32)) hx hb dX6_isFree_16 (by decide) ?_
      refine lv_istore_n (lv' := [(3, .int (0 : Int32)), (0, .ref (a k0)), (1, .int x1), (2, .int x2)]) hx hb dX6_isFree_17 rfl hl (by decide) rfl (fun ls hl => ?_)
      exact zq_X6_isFree_18 X hA hk0 h H locs ls hB (lv_sub hl [1, 2, 3, 0] rfl)
    · have h := h.2 c11
      refine lv_iconst (v := (0 : Int32)) hx hb dX6_isFree_14 (by decide) ?_
      exact zz_zret hx hb hr hlocks zz_bool0 hB ⟨h, rfl, rfl⟩ dX6_isFree_15
theorem zc_X6_isFree (l : Launch) (D : va_G) (ca : Nat → ClassId) (a : Nat → Nat) (I : zz_I) (L : zz_L) (sz : Nat) {k0 : Nat} {x1 : Int32} {x2 : Int32} {P : Int32 → Prop} (hk0 : zz_isT k0) (h : zp_X6_isFree k0 x1 x2 P I L) : Met l yX6_isFree [.code yX6_isFree cX6_isFree 4 (some .boolean)] ({ frames := 0, cells := 0, slots := 0, locals := 0 } : Room) (zz_Pre D ca zz_dC [.ref (a k0), .int x1, .int x2] a I L sz) (zz_Qi D ca zz_dC (zz_A ca zz_dC a I L sz) a (fun r I9 L9 => P r ∧ I9 = I ∧ L9 = L)) 0 0 (zz_A ca zz_dC a I L sz) :=
  zz_start (by decide) (Nat.le_of_ble_eq_true rfl) (fun p e s m below meth c X hsz hA => zq_X6_isFree X hA hk0 h)
def zp_X6_holdsWord_90 (K16 : Int32 → Int32 → Prop) (P : Int32 → Prop) (k0 : Nat) (x2 : Int32) (x4 : Int32) (x5 : Int32) (x7 : Int32) (I : zz_I) (L : zz_L) : Prop := ∀ v95 : Int32, v95 = x4 + x7 → (∀ v97 : Int32, v97 = x5 + (1 : Int32) → (K16 v95 v97))
set_option maxHeartbeats 4000000 in
set_option maxRecDepth 100000 in
theorem zq_X6_holdsWord_90 {p : Program} {l : Launch} {e : Env} {s : State} {m : MethodId} {args : Array Value} {below : List Frame} {meth : Method} {c : Code} {D : va_G} {ca : Nat → ClassId} {A : Nat → Prop} {a : Nat → Nat} {K16 : Int32 → Int32 → Prop} {P : Int32 → Prop} {I : zz_I} {L : zz_L} {k0 : Nat} {x2 : Int32} {x4 : Int32} {x5 : Int32} {x7 : Int32} (X : zz_X p s m meth c cX6_holdsWord RX6 (some .boolean) 9) (hA : ∀ q, s.heap.size ≤ q → A q) (hk0 : zz_isT k0) (hK16 : ∀ (y4 : Int32) (y5 : Int32), K16 y4 y5 → zz_Go p l e ({ frames := 1, cells := 0, slots := 0, locals := 23 } : Room) s m args below meth c 0 0 (MQ below (zz_Qi D ca zz_dC A a (fun r I9 L9 => P r ∧ I9 = I ∧ L9 = L)) args s 0 0 A) D ca zz_dC A 9 16 a [] [(0, .ref (a k0)), (1, .ref (a 14)), (2, .int x2), (4, .int y4), (5, .int y5)] I L) (h : zp_X6_holdsWord_90 K16 P k0 x2 x4 x5 x7 I L) : zz_Go p l e ({ frames := 1, cells := 0, slots := 0, locals := 23 } : Room) s m args below meth c 0 0 (MQ below (zz_Qi D ca zz_dC A a (fun r I9 L9 => P r ∧ I9 = I ∧ L9 = L)) args s 0 0 A) D ca zz_dC A 9 90 a [] [(0, .ref (a k0)), (1, .ref (a 14)), (2, .int x2), (4, .int x4), (5, .int x5), (7, .int x7)] I L := by
  obtain ⟨hx, hb, hml, hown, zw, hr, hlocks⟩ := id X
  intro H locs ls hB hl
  unfold zp_X6_holdsWord_90 at h
  refine lv_iload hx hb dX6_holdsWord_90 (lv_at hl 3 rfl) ?_
  refine lv_iload hx hb dX6_holdsWord_92 (lv_at hl 5 rfl) ?_
  refine lv_iadd hx hb dX6_holdsWord_94 ?_
  refine lv_topi (fun v95 ev95 => ?_)
  have h := h v95 ev95
  refine lv_istore (lv' := [(4, .int v95), (0, .ref (a k0)), (1, .ref (a 14)), (2, .int x2), (5, .int x5), (7, .int x7)]) hx hb dX6_holdsWord_95 hl (by decide) rfl (fun ls hl => ?_)
  obtain ⟨v97, ev97⟩ : ∃ z : Int32, z = x5 + (1 : Int32) := ⟨_, rfl⟩
  have h := h v97 ev97
  refine lv_iinc (v := v97) (lv' := [(5, .int v97), (4, .int v95), (0, .ref (a k0)), (1, .ref (a 14)), (2, .int x2), (7, .int x7)]) hx hb dX6_holdsWord_97 hl (k := 4) rfl (by rw [ev97]; rfl) (by decide) rfl (fun ls hl => ?_)
  refine lv_goto (tgt := 16) hx hb dX6_holdsWord_100 (by decide) ?_
  exact hK16 _ _ h H locs ls hB (lv_sub hl [2, 3, 4, 1, 0] rfl)
def zp_X6_holdsWord_70 (K16 : Int32 → Int32 → Prop) (P : Int32 → Prop) (k0 : Nat) (x2 : Int32) (x4 : Int32) (x5 : Int32) (x7 : Int32) (s0 : Int32) (I : zz_I) (L : zz_L) : Prop := (¬ s0 = 0 → zp_X6_holdsWord_90 K16 P k0 x2 x4 x5 x7 I L) ∧ (s0 = 0 → zp_X6_isFree k0 x4 x7 (fun r82 => (¬ r82 = 0 → zp_X6_holdsWord_90 K16 P k0 x2 x4 x5 x7 I L) ∧ (r82 = 0 → P (0 : Int32))) I L)
set_option maxHeartbeats 4000000 in
set_option maxRecDepth 100000 in
theorem zq_X6_holdsWord_70 {p : Program} {l : Launch} {e : Env} {s : State} {m : MethodId} {args : Array Value} {below : List Frame} {meth : Method} {c : Code} {D : va_G} {ca : Nat → ClassId} {A : Nat → Prop} {a : Nat → Nat} {K16 : Int32 → Int32 → Prop} {P : Int32 → Prop} {I : zz_I} {L : zz_L} {k0 : Nat} {x2 : Int32} {x4 : Int32} {x5 : Int32} {x7 : Int32} {s0 : Int32} (X : zz_X p s m meth c cX6_holdsWord RX6 (some .boolean) 9) (hA : ∀ q, s.heap.size ≤ q → A q) (hk0 : zz_isT k0) (hK16 : ∀ (y4 : Int32) (y5 : Int32), K16 y4 y5 → zz_Go p l e ({ frames := 1, cells := 0, slots := 0, locals := 23 } : Room) s m args below meth c 0 0 (MQ below (zz_Qi D ca zz_dC A a (fun r I9 L9 => P r ∧ I9 = I ∧ L9 = L)) args s 0 0 A) D ca zz_dC A 9 16 a [] [(0, .ref (a k0)), (1, .ref (a 14)), (2, .int x2), (4, .int y4), (5, .int y5)] I L) (h : zp_X6_holdsWord_70 K16 P k0 x2 x4 x5 x7 s0 I L) : zz_Go p l e ({ frames := 1, cells := 0, slots := 0, locals := 23 } : Room) s m args below meth c 0 0 (MQ below (zz_Qi D ca zz_dC A a (fun r I9 L9 => P r ∧ I9 = I ∧ L9 = L)) args s 0 0 A) D ca zz_dC A 9 70 a [.int s0] [(0, .ref (a k0)), (1, .ref (a 14)), (2, .int x2), (4, .int x4), (5, .int x5), (7, .int x7)] I L := by
  obtain ⟨hx, hb, hml, hown, zw, hr, hlocks⟩ := id X
  intro H locs ls hB hl
  unfold zp_X6_holdsWord_70 at h
  refine lv_istore (lv' := [(8, .int s0), (0, .ref (a k0)), (1, .ref (a 14)), (2, .int x2), (4, .int x4), (5, .int x5), (7, .int x7)]) hx hb dX6_holdsWord_70 hl (by decide) rfl (fun ls hl => ?_)
  refine lv_iload hx hb dX6_holdsWord_72 (lv_at hl 0 rfl) ?_
  refine lv_if_ne (tgt := 90) hx hb dX6_holdsWord_74 (by decide) (fun c74 => ?_) (fun c74 => ?_)
  · have h := h.1 c74
    exact zq_X6_holdsWord_90 X hA hk0 hK16 h H locs ls hB (lv_sub hl [1, 2, 3, 4, 5, 6] rfl)
  · have h := h.2 c74
    refine lv_aload_n hx hb dX6_holdsWord_77 rfl (lv_at hl 1 rfl) ?_
    refine lv_iload hx hb dX6_holdsWord_78 (lv_at hl 4 rfl) ?_
    refine lv_iload hx hb dX6_holdsWord_80 (lv_at hl 6 rfl) ?_
    refine zz_goip hB hA (zz_runV (As := [.int x4, .int x7]) (rest := []) hx hb hml hown zw hB zM_X6_60 (zc_X6_isFree l D ca a I L H.size hk0 h) hk0.1 rfl rfl hl.1 rfl (Nat.le_of_ble_eq_true rfl) rfl rfl ⟨Nat.le_of_ble_eq_true rfl, Nat.le_of_ble_eq_true rfl⟩ dX6_holdsWord_82 ⟨Nat.le_of_ble_eq_true rfl, Nat.le_of_ble_eq_true rfl⟩) (fun r82 H locs h hB => ?_)
    refine lv_if_ne (tgt := 90) hx hb dX6_holdsWord_85 (by decide) (fun c85 => ?_) (fun c85 => ?_)
    · have h := h.1 c85
      exact zq_X6_holdsWord_90 X hA hk0 hK16 h H locs ls hB (lv_sub hl [1, 2, 3, 4, 5, 6] rfl)
    · have h := h.2 c85
      refine lv_iconst (v := (0 : Int32)) hx hb dX6_holdsWord_88 (by decide) ?_
      exact zz_zret hx hb hr hlocks zz_bool0 hB ⟨h, rfl, rfl⟩ dX6_holdsWord_89
def zp_X6_holdsWord_16b (K16 : Int32 → Int32 → Prop) (P : Int32 → Prop) (k0 : Nat) (x2 : Int32) (x4 : Int32) (x5 : Int32) (I : zz_I) (L : zz_L) : Prop := vp_in x2 8 ∧ (((I 17 x2.toNatClampNeg) ≤ x5 → P (1 : Int32)) ∧ (¬ (I 17 x2.toNatClampNeg) ≤ x5 → zp_X2_letterOf x2 x5 (fun r31 => zp_X2_widthOf 14 r31 (fun r39 => zp_X6_hasUnit k0 x4 (fun r47 => (r47 = 0 → zp_X6_holdsWord_70 K16 P k0 x2 x4 x5 r39 (0 : Int32) I L) ∧ (¬ r47 = 0 → vp_in x4 24 ∧ ((¬ (I (k0 + 1) x4.toNatClampNeg) = r31 → zp_X6_holdsWord_70 K16 P k0 x2 x4 x5 r39 (0 : Int32) I L) ∧ ((I (k0 + 1) x4.toNatClampNeg) = r31 → zp_X6_holdsWord_70 K16 P k0 x2 x4 x5 r39 (1 : Int32) I L)))) I L) I L) I L))
set_option maxHeartbeats 4000000 in
set_option maxRecDepth 100000 in
theorem zq_X6_holdsWord_16b {p : Program} {l : Launch} {e : Env} {s : State} {m : MethodId} {args : Array Value} {below : List Frame} {meth : Method} {c : Code} {D : va_G} {ca : Nat → ClassId} {A : Nat → Prop} {a : Nat → Nat} {K16 : Int32 → Int32 → Prop} {P : Int32 → Prop} {I : zz_I} {L : zz_L} {k0 : Nat} {x2 : Int32} {x4 : Int32} {x5 : Int32} (X : zz_X p s m meth c cX6_holdsWord RX6 (some .boolean) 9) (hA : ∀ q, s.heap.size ≤ q → A q) (hk0 : zz_isT k0) (hK16 : ∀ (y4 : Int32) (y5 : Int32), K16 y4 y5 → zz_Go p l e ({ frames := 1, cells := 0, slots := 0, locals := 23 } : Room) s m args below meth c 0 0 (MQ below (zz_Qi D ca zz_dC A a (fun r I9 L9 => P r ∧ I9 = I ∧ L9 = L)) args s 0 0 A) D ca zz_dC A 9 16 a [] [(0, .ref (a k0)), (1, .ref (a 14)), (2, .int x2), (4, .int y4), (5, .int y5)] I L) (h : zp_X6_holdsWord_16b K16 P k0 x2 x4 x5 I L) : zz_Go p l e ({ frames := 1, cells := 0, slots := 0, locals := 23 } : Room) s m args below meth c 0 0 (MQ below (zz_Qi D ca zz_dC A a (fun r I9 L9 => P r ∧ I9 = I ∧ L9 = L)) args s 0 0 A) D ca zz_dC A 9 16 a [] [(0, .ref (a k0)), (1, .ref (a 14)), (2, .int x2), (4, .int x4), (5, .int x5)] I L := by
  obtain ⟨hx, hb, hml, hown, zw, hr, hlocks⟩ := id X
  intro H locs ls hB hl
  unfold zp_X6_holdsWord_16b at h
  refine lv_iload hx hb dX6_holdsWord_16 (lv_at hl 4 rfl) ?_
  refine lv_aload_n hx hb dX6_holdsWord_18 rfl (lv_at hl 1 rfl) ?_
  refine zz_getr (k' := 17) hx hb hown zw hB zF_X6_49 zdC_14 rfl rfl dX6_holdsWord_19 ?_
  refine lv_iload_n hx hb dX6_holdsWord_22 rfl (lv_at hl 2 rfl) ?_
  obtain ⟨hi23, h⟩ := h
  refine zz_iald hx hb hB zdC_17 hi23 dX6_holdsWord_23 ?_
  refine lv_icmp_ge (tgt := 103) hx hb dX6_holdsWord_24 (by decide) (fun c24 => ?_) (fun c24 => ?_)
  · have h := h.1 c24
    refine lv_iconst (v := (1 : Int32)) hx hb dX6_holdsWord_103 (by decide) ?_
    exact zz_zret hx hb hr hlocks zz_bool1 hB ⟨h, rfl, rfl⟩ dX6_holdsWord_104
  · have h := h.2 c24
    refine lv_aload_n hx hb dX6_holdsWord_27 rfl (lv_at hl 1 rfl) ?_
    refine lv_iload_n hx hb dX6_holdsWord_28 rfl (lv_at hl 2 rfl) ?_
    refine lv_iload hx hb dX6_holdsWord_29 (lv_at hl 4 rfl) ?_
    refine zz_goip hB hA (zz_runV (As := [.int x2, .int x5]) (rest := []) hx hb hml hown zw hB zM_X6_52 (zc_X2_letterOf l D ca a I L H.size h) zdC_14 rfl rfl hl.1 rfl (Nat.le_of_ble_eq_true rfl) rfl rfl ⟨Nat.le_of_ble_eq_true rfl, Nat.le_of_ble_eq_true rfl⟩ dX6_holdsWord_31 ⟨Nat.le_of_ble_eq_true rfl, Nat.le_of_ble_eq_true rfl⟩) (fun r31 H locs h hB => ?_)
    refine lv_istore (lv' := [(6, .int r31), (0, .ref (a k0)), (1, .ref (a 14)), (2, .int x2), (4, .int x4), (5, .int x5)]) hx hb dX6_holdsWord_34 hl (by decide) rfl (fun ls hl => ?_)
    refine lv_aload_n hx hb dX6_holdsWord_36 rfl (lv_at hl 2 rfl) ?_
    refine lv_iload hx hb dX6_holdsWord_37 (lv_at hl 0 rfl) ?_
    refine zz_goip hB hA (zz_runV (As := [.int r31]) (rest := []) hx hb hml hown zw hB zM_X6_56 (zc_X2_widthOf l D ca a I L H.size zz_isX_14 h) zdC_14 rfl rfl hl.1 rfl (Nat.le_of_ble_eq_true rfl) rfl rfl ⟨Nat.le_of_ble_eq_true rfl, Nat.le_of_ble_eq_true rfl⟩ dX6_holdsWord_39 ⟨Nat.le_of_ble_eq_true rfl, Nat.le_of_ble_eq_true rfl⟩) (fun r39 H locs h hB => ?_)
    refine lv_istore (lv' := [(7, .int r39), (6, .int r31), (0, .ref (a k0)), (1, .ref (a 14)), (2, .int x2), (4, .int x4), (5, .int x5)]) hx hb dX6_holdsWord_42 hl (by decide) rfl (fun ls hl => ?_)
    refine lv_aload_n hx hb dX6_holdsWord_44 rfl (lv_at hl 2 rfl) ?_
    refine lv_iload hx hb dX6_holdsWord_45 (lv_at hl 5 rfl) ?_
    refine zz_goip hB hA (zz_runV (As := [.int x4]) (rest := []) hx hb hml hown zw hB zM_X6_40 (zc_X6_hasUnit l D ca a I L H.size hk0 h) hk0.1 rfl rfl hl.1 rfl (Nat.le_of_ble_eq_true rfl) rfl rfl ⟨Nat.le_of_ble_eq_true rfl, Nat.le_of_ble_eq_true rfl⟩ dX6_holdsWord_47 ⟨Nat.le_of_ble_eq_true rfl, Nat.le_of_ble_eq_true rfl⟩) (fun r47 H locs h hB => ?_)
    refine lv_if_eq (tgt := 69) hx hb dX6_holdsWord_50 (by decide) (fun c50 => ?_) (fun c50 => ?_)
    · have h := h.1 c50
      refine lv_iconst (v := (0 : Int32)) hx hb dX6_holdsWord_69 (by decide) ?_
      exact zq_X6_holdsWord_70 X hA hk0 hK16 h H locs ls hB (lv_sub hl [2, 3, 4, 5, 6, 0] rfl)
    · have h := h.2 c50
      refine lv_aload_n hx hb dX6_holdsWord_53 rfl (lv_at hl 2 rfl) ?_
      refine zz_getr (k' := k0 + 1) hx hb hown zw hB zF_X6_9 hk0.1 rfl rfl dX6_holdsWord_54 ?_
      refine lv_iload hx hb dX6_holdsWord_57 (lv_at hl 5 rfl) ?_
      obtain ⟨hi59, h⟩ := h
      refine zz_iald hx hb hB hk0.2.1 hi59 dX6_holdsWord_59 ?_
      refine lv_iload hx hb dX6_holdsWord_60 (lv_at hl 1 rfl) ?_
      refine lv_icmp_ne (tgt := 69) hx hb dX6_holdsWord_62 (by decide) (fun c62 => ?_) (fun c62 => ?_)
      · have h := h.1 c62
        refine lv_iconst (v := (0 : Int32)) hx hb dX6_holdsWord_69 (by decide) ?_
        exact zq_X6_holdsWord_70 X hA hk0 hK16 h H locs ls hB (lv_sub hl [2, 3, 4, 5, 6, 0] rfl)
      · have h := h.2 c62
        refine lv_iconst (v := (1 : Int32)) hx hb dX6_holdsWord_65 (by decide) ?_
        refine lv_goto (tgt := 70) hx hb dX6_holdsWord_66 (by decide) ?_
        exact zq_X6_holdsWord_70 X hA hk0 hK16 h H locs ls hB (lv_sub hl [2, 3, 4, 5, 6, 0] rfl)
def zp_X6_holdsWord_16  (P : Int32 → Prop) (k0 : Nat) (x2 : Int32) (x4 : Int32) (x5 : Int32) (I : zz_I) (L : zz_L) : Prop := ∃ (Inv : Int32 → Int32 → Prop) (μ : Int32 → Int32 → Nat), Inv x4 x5 ∧ ∀ (y4 : Int32) (y5 : Int32), Inv y4 y5 → zp_X6_holdsWord_16b  (fun z4 z5 => Inv z4 z5 ∧ μ z4 z5 < μ y4 y5) P k0 x2 y4 y5 I L
set_option maxHeartbeats 4000000 in
set_option maxRecDepth 100000 in
theorem zq_X6_holdsWord_16 {p : Program} {l : Launch} {e : Env} {s : State} {m : MethodId} {args : Array Value} {below : List Frame} {meth : Method} {c : Code} {D : va_G} {ca : Nat → ClassId} {A : Nat → Prop} {a : Nat → Nat}  {P : Int32 → Prop} {I : zz_I} {L : zz_L} {k0 : Nat} {x2 : Int32} {x4 : Int32} {x5 : Int32} (X : zz_X p s m meth c cX6_holdsWord RX6 (some .boolean) 9) (hA : ∀ q, s.heap.size ≤ q → A q) (hk0 : zz_isT k0)  (h : zp_X6_holdsWord_16  P k0 x2 x4 x5 I L) : zz_Go p l e ({ frames := 1, cells := 0, slots := 0, locals := 23 } : Room) s m args below meth c 0 0 (MQ below (zz_Qi D ca zz_dC A a (fun r I9 L9 => P r ∧ I9 = I ∧ L9 = L)) args s 0 0 A) D ca zz_dC A 9 16 a [] [(0, .ref (a k0)), (1, .ref (a 14)), (2, .int x2), (4, .int x4), (5, .int x5)] I L := by
  unfold zp_X6_holdsWord_16 at h
  obtain ⟨Inv, μ, hv0, hs⟩ := h
  have key : ∀ (n9 : Nat) (y4 : Int32) (y5 : Int32), μ y4 y5 < n9 → Inv y4 y5 → zz_Go p l e ({ frames := 1, cells := 0, slots := 0, locals := 23 } : Room) s m args below meth c 0 0 (MQ below (zz_Qi D ca zz_dC A a (fun r I9 L9 => P r ∧ I9 = I ∧ L9 = L)) args s 0 0 A) D ca zz_dC A 9 16 a [] [(0, .ref (a k0)), (1, .ref (a 14)), (2, .int x2), (4, .int y4), (5, .int y5)] I L := by
    intro n9
    induction n9 with
    | zero => intro y4 y5 hn; exact absurd hn (Nat.not_lt_zero _)
    | succ n9 ih =>
      intro y4 y5 hn hi
      exact zq_X6_holdsWord_16b (K16 := (fun z4 z5 => Inv z4 z5 ∧ μ z4 z5 < μ y4 y5)) X hA hk0  (fun z4 z5 hz => ih z4 z5 (Nat.lt_of_lt_of_le hz.2 (Nat.le_of_lt_succ hn)) hz.1) (hs y4 y5 hi)
  exact key _ x4 x5 (Nat.lt_succ_self _) hv0
def zp_X6_holdsWord (k0 : Nat) (x2 : Int32) (x3 : Int32) (P : Int32 → Prop) (I : zz_I) (L : zz_L) : Prop := zp_X2_hasWord x2 (fun r2 => (¬ r2 = 0 → zp_X6_holdsWord_16 P k0 x2 x3 (0 : Int32) I L) ∧ (r2 = 0 → P (0 : Int32))) I L
set_option maxHeartbeats 4000000 in
set_option maxRecDepth 100000 in
theorem zq_X6_holdsWord {p : Program} {l : Launch} {e : Env} {s : State} {m : MethodId} {args : Array Value} {below : List Frame} {meth : Method} {c : Code} {D : va_G} {ca : Nat → ClassId} {A : Nat → Prop} {a : Nat → Nat}  {P : Int32 → Prop} {I : zz_I} {L : zz_L} {k0 : Nat} {x2 : Int32} {x3 : Int32} (X : zz_X p s m meth c cX6_holdsWord RX6 (some .boolean) 9) (hA : ∀ q, s.heap.size ≤ q → A q) (hk0 : zz_isT k0)  (h : zp_X6_holdsWord k0 x2 x3 P I L) : zz_Go p l e ({ frames := 1, cells := 0, slots := 0, locals := 23 } : Room) s m args below meth c 0 0 (MQ below (zz_Qi D ca zz_dC A a (fun r I9 L9 => P r ∧ I9 = I ∧ L9 = L)) args s 0 0 A) D ca zz_dC A 9 0 a [] [(0, .ref (a k0)), (1, .ref (a 14)), (2, .int x2), (3, .int x3)] I L := by
  obtain ⟨hx, hb, hml, hown, zw, hr, hlocks⟩ := id X
  intro H locs ls hB hl
  unfold zp_X6_holdsWord at h
  refine lv_aload_n hx hb dX6_holdsWord_0 rfl (lv_at hl 1 rfl) ?_
  refine lv_iload_n hx hb dX6_holdsWord_1 rfl (lv_at hl 2 rfl) ?_
  refine zz_goip hB hA (zz_runV (As := [.int x2]) (rest := []) hx hb hml hown zw hB zM_X6_44 (zc_X2_hasWord l D ca a I L H.size h) zdC_14 rfl rfl hl.1 rfl (Nat.le_of_ble_eq_true rfl) rfl rfl ⟨Nat.le_of_ble_eq_true rfl, Nat.le_of_ble_eq_true rfl⟩ dX6_holdsWord_2 ⟨Nat.le_of_ble_eq_true rfl, Nat.le_of_ble_eq_true rfl⟩) (fun r2 H locs h hB => ?_)
  refine lv_if_ne (tgt := 10) hx hb dX6_holdsWord_5 (by decide) (fun c5 => ?_) (fun c5 => ?_)
  · have h := h.1 c5
    refine lv_iload_n hx hb dX6_holdsWord_10 rfl (lv_at hl 3 rfl) ?_
    refine lv_istore (lv' := [(4, .int x3), (0, .ref (a k0)), (1, .ref (a 14)), (2, .int x2), (3, .int x3)]) hx hb dX6_holdsWord_11 hl (by decide) rfl (fun ls hl => ?_)
    refine lv_iconst (v := (0 : Int32)) hx hb dX6_holdsWord_13 (by decide) ?_
    refine lv_istore (lv' := [(5, .int (0 : Int32)), (4, .int x3), (0, .ref (a k0)), (1, .ref (a 14)), (2, .int x2), (3, .int x3)]) hx hb dX6_holdsWord_14 hl (by decide) rfl (fun ls hl => ?_)
    exact zq_X6_holdsWord_16 X hA hk0 h H locs ls hB (lv_sub hl [2, 3, 4, 1, 0] rfl)
  · have h := h.2 c5
    refine lv_iconst (v := (0 : Int32)) hx hb dX6_holdsWord_8 (by decide) ?_
    exact zz_zret hx hb hr hlocks zz_bool0 hB ⟨h, rfl, rfl⟩ dX6_holdsWord_9
theorem zc_X6_holdsWord (l : Launch) (D : va_G) (ca : Nat → ClassId) (a : Nat → Nat) (I : zz_I) (L : zz_L) (sz : Nat) {k0 : Nat} {x2 : Int32} {x3 : Int32} {P : Int32 → Prop} (hk0 : zz_isT k0) (h : zp_X6_holdsWord k0 x2 x3 P I L) : Met l yX6_holdsWord [.code yX6_holdsWord cX6_holdsWord 9 (some .boolean)] ({ frames := 1, cells := 0, slots := 0, locals := 23 } : Room) (zz_Pre D ca zz_dC [.ref (a k0), .ref (a 14), .int x2, .int x3] a I L sz) (zz_Qi D ca zz_dC (zz_A ca zz_dC a I L sz) a (fun r I9 L9 => P r ∧ I9 = I ∧ L9 = L)) 0 0 (zz_A ca zz_dC a I L sz) :=
  zz_start (by decide) (Nat.le_of_ble_eq_true rfl) (fun p e s m below meth c X hsz hA => zq_X6_holdsWord X hA hk0 h)
def zp_X0_lay_122 (K26 : Int32 → zz_I → zz_L → Prop) (K61 : Int32 → zz_I → zz_L → Prop) (P : zz_I → zz_L → Prop) (k2 : Nat) (x3 : Int32) (x4 : Int32) (s0 : Int32) (I : zz_I) (L : zz_L) : Prop := (s0 = 0 → ∀ v153 : Int32, v153 = x4 + (1 : Int32) → (K61 v153 I L)) ∧ (¬ s0 = 0 → zp_X6_holdsWord k2 x3 x4 (fun r134 => (r134 = 0 → ∀ v153 : Int32, v153 = x4 + (1 : Int32) → (K61 v153 I L)) ∧ (¬ r134 = 0 → vp_in x4 25 ∧ (vp_in x4 25 ∧ (∀ I152 : zz_I, I152 = zz_up I 38 x4.toNatClampNeg ((I 38 x4.toNatClampNeg) ||| ((1 : Int32) <<< (x3 &&& 31))) → (∀ v153 : Int32, v153 = x4 + (1 : Int32) → (K61 v153 I152 L)))))) I L)
set_option maxHeartbeats 4000000 in
set_option maxRecDepth 100000 in
theorem zq_X0_lay_122 {p : Program} {l : Launch} {e : Env} {s : State} {m : MethodId} {args : Array Value} {below : List Frame} {meth : Method} {c : Code} {D : va_G} {ca : Nat → ClassId} {A : Nat → Prop} {a : Nat → Nat} {K26 : Int32 → zz_I → zz_L → Prop} {K61 : Int32 → zz_I → zz_L → Prop} {P : zz_I → zz_L → Prop} {I : zz_I} {L : zz_L} {k2 : Nat} {x3 : Int32} {x4 : Int32} {s0 : Int32} (X : zz_X p s m meth c cX0_lay RX0 none 7) (hA : ∀ q, s.heap.size ≤ q → A q) (hk2 : zz_isT k2) (hK26 : ∀ (y3 : Int32) (I8 : zz_I) (L8 : zz_L), K26 y3 I8 L8 → zz_Go p l e ({ frames := 2, cells := 0, slots := 0, locals := 51 } : Room) s m args below meth c 0 0 (MQ below (zz_Qv D ca zz_dC A a P) args s 0 0 A) D ca zz_dC A 7 26 a [] [(0, .ref (a 37)), (1, .ref (a 14)), (2, .ref (a k2)), (3, .int y3)] I8 L8) (hK61 : ∀ (y4 : Int32) (I8 : zz_I) (L8 : zz_L), K61 y4 I8 L8 → zz_Go p l e ({ frames := 2, cells := 0, slots := 0, locals := 51 } : Room) s m args below meth c 0 0 (MQ below (zz_Qv D ca zz_dC A a P) args s 0 0 A) D ca zz_dC A 7 61 a [] [(0, .ref (a 37)), (1, .ref (a 14)), (2, .ref (a k2)), (3, .int x3), (4, .int y4)] I8 L8) (h : zp_X0_lay_122 K26 K61 P k2 x3 x4 s0 I L) : zz_Go p l e ({ frames := 2, cells := 0, slots := 0, locals := 51 } : Room) s m args below meth c 0 0 (MQ below (zz_Qv D ca zz_dC A a P) args s 0 0 A) D ca zz_dC A 7 122 a [.int s0] [(0, .ref (a 37)), (1, .ref (a 14)), (2, .ref (a k2)), (3, .int x3), (4, .int x4)] I L := by
  obtain ⟨hx, hb, hml, hown, zw, hr, hlocks⟩ := id X
  intro H locs ls hB hl
  unfold zp_X0_lay_122 at h
  refine lv_istore (lv' := [(6, .int s0), (0, .ref (a 37)), (1, .ref (a 14)), (2, .ref (a k2)), (3, .int x3), (4, .int x4)]) hx hb dX0_lay_122 hl (by decide) rfl (fun ls hl => ?_)
  refine lv_iload hx hb dX0_lay_124 (lv_at hl 0 rfl) ?_
  refine lv_if_eq (tgt := 153) hx hb dX0_lay_126 (by decide) (fun c126 => ?_) (fun c126 => ?_)
  · have h := h.1 c126
    obtain ⟨v153, ev153⟩ : ∃ z : Int32, z = x4 + (1 : Int32) := ⟨_, rfl⟩
    have h := h v153 ev153
    refine lv_iinc (v := v153) (lv' := [(4, .int v153), (6, .int s0), (0, .ref (a 37)), (1, .ref (a 14)), (2, .ref (a k2)), (3, .int x3)]) hx hb dX0_lay_153 hl (k := 5) rfl (by rw [ev153]; rfl) (by decide) rfl (fun ls hl => ?_)
    refine lv_goto (tgt := 61) hx hb dX0_lay_156 (by decide) ?_
    exact hK61 _ _ _ h H locs ls hB (lv_sub hl [2, 3, 4, 5, 0] rfl)
  · have h := h.2 c126
    refine lv_aload_n hx hb dX0_lay_129 rfl (lv_at hl 3 rfl) ?_
    refine lv_aload_n hx hb dX0_lay_130 rfl (lv_at hl 2 rfl) ?_
    refine lv_iload_n hx hb dX0_lay_131 rfl (lv_at hl 4 rfl) ?_
    refine lv_iload hx hb dX0_lay_132 (lv_at hl 5 rfl) ?_
    refine zz_goip hB hA (zz_runV (As := [.ref (a 14), .int x3, .int x4]) (rest := []) hx hb hml hown zw hB zM_X0_93 (zc_X6_holdsWord l D ca a I L H.size hk2 h) hk2.1 rfl rfl hl.1 rfl (Nat.le_of_ble_eq_true rfl) rfl rfl ⟨Nat.le_of_ble_eq_true rfl, Nat.le_of_ble_eq_true rfl⟩ dX0_lay_134 ⟨Nat.le_of_ble_eq_true rfl, Nat.le_of_ble_eq_true rfl⟩) (fun r134 H locs h hB => ?_)
    refine lv_if_eq (tgt := 153) hx hb dX0_lay_137 (by decide) (fun c137 => ?_) (fun c137 => ?_)
    · have h := h.1 c137
      obtain ⟨v153, ev153⟩ : ∃ z : Int32, z = x4 + (1 : Int32) := ⟨_, rfl⟩
      have h := h v153 ev153
      refine lv_iinc (v := v153) (lv' := [(4, .int v153), (6, .int s0), (0, .ref (a 37)), (1, .ref (a 14)), (2, .ref (a k2)), (3, .int x3)]) hx hb dX0_lay_153 hl (k := 5) rfl (by rw [ev153]; rfl) (by decide) rfl (fun ls hl => ?_)
      refine lv_goto (tgt := 61) hx hb dX0_lay_156 (by decide) ?_
      exact hK61 _ _ _ h H locs ls hB (lv_sub hl [2, 3, 4, 5, 0] rfl)
    · have h := h.2 c137
      refine lv_aload_n hx hb dX0_lay_140 rfl (lv_at hl 1 rfl) ?_
      refine zz_getr (k' := 38) hx hb hown zw hB zF_X0_9 zdC_37 rfl rfl dX0_lay_141 ?_
      refine lv_iload hx hb dX0_lay_144 (lv_at hl 5 rfl) ?_
      refine lv_dup2_11 hx hb dX0_lay_146 rfl rfl ?_
      obtain ⟨hi147, h⟩ := h
      refine zz_iald hx hb hB zdC_38 hi147 dX0_lay_147 ?_
      refine lv_iconst (v := (1 : Int32)) hx hb dX0_lay_148 (by decide) ?_
      refine lv_iload_n hx hb dX0_lay_149 rfl (lv_at hl 4 rfl) ?_
      refine lv_ishl hx hb dX0_lay_150 ?_
      refine lv_ior hx hb dX0_lay_151 ?_
      obtain ⟨hi152, h⟩ := h
      refine zz_iast hx hb hB zdC_38 hi152 dX0_lay_152 (fun H locs hB => ?_)
      obtain ⟨I152, eI152⟩ : ∃ z : zz_I, z = zz_up I 38 x4.toNatClampNeg ((I 38 x4.toNatClampNeg) ||| ((1 : Int32) <<< (x3 &&& 31))) := ⟨_, rfl⟩
      rw [← eI152] at hB
      have h := h I152 eI152
      obtain ⟨v153, ev153⟩ : ∃ z : Int32, z = x4 + (1 : Int32) := ⟨_, rfl⟩
      have h := h v153 ev153
      refine lv_iinc (v := v153) (lv' := [(4, .int v153), (6, .int s0), (0, .ref (a 37)), (1, .ref (a 14)), (2, .ref (a k2)), (3, .int x3)]) hx hb dX0_lay_153 hl (k := 5) rfl (by rw [ev153]; rfl) (by decide) rfl (fun ls hl => ?_)
      refine lv_goto (tgt := 61) hx hb dX0_lay_156 (by decide) ?_
      exact hK61 _ _ _ h H locs ls hB (lv_sub hl [2, 3, 4, 5, 0] rfl)
def zp_X0_lay_61b (K26 : Int32 → zz_I → zz_L → Prop) (K61 : Int32 → zz_I → zz_L → Prop) (P : zz_I → zz_L → Prop) (k2 : Nat) (x3 : Int32) (x4 : Int32) (I : zz_I) (L : zz_L) : Prop := vp_in x3 8 ∧ (((I 37 6) < (x4 + (I 41 x3.toNatClampNeg)) → ∀ v159 : Int32, v159 = x3 + (1 : Int32) → (K26 v159 I L)) ∧ (¬ (I 37 6) < (x4 + (I 41 x3.toNatClampNeg)) → (¬ (((I k2 4) >>> (x3 &&& 31)) &&& (1 : Int32)) = 0 → ∀ v159 : Int32, v159 = x3 + (1 : Int32) → (K26 v159 I L)) ∧ ((((I k2 4) >>> (x3 &&& 31)) &&& (1 : Int32)) = 0 → vp_in x3 8 ∧ (∀ v97 : Int32, v97 = x4 + (I 41 x3.toNatClampNeg) → ((v97 = (I 37 6) → zp_X0_lay_122 K26 K61 P k2 x3 x4 (1 : Int32) I L) ∧ (¬ v97 = (I 37 6) → zp_X6_holdsBlank k2 v97 (fun r111 => (r111 = 0 → zp_X0_lay_122 K26 K61 P k2 x3 x4 (0 : Int32) I L) ∧ (¬ r111 = 0 → zp_X0_lay_122 K26 K61 P k2 x3 x4 (1 : Int32) I L)) I L))))))
set_option maxHeartbeats 4000000 in
set_option maxRecDepth 100000 in
theorem zq_X0_lay_61b {p : Program} {l : Launch} {e : Env} {s : State} {m : MethodId} {args : Array Value} {below : List Frame} {meth : Method} {c : Code} {D : va_G} {ca : Nat → ClassId} {A : Nat → Prop} {a : Nat → Nat} {K26 : Int32 → zz_I → zz_L → Prop} {K61 : Int32 → zz_I → zz_L → Prop} {P : zz_I → zz_L → Prop} {I : zz_I} {L : zz_L} {k2 : Nat} {x3 : Int32} {x4 : Int32} (X : zz_X p s m meth c cX0_lay RX0 none 7) (hA : ∀ q, s.heap.size ≤ q → A q) (hk2 : zz_isT k2) (hK26 : ∀ (y3 : Int32) (I8 : zz_I) (L8 : zz_L), K26 y3 I8 L8 → zz_Go p l e ({ frames := 2, cells := 0, slots := 0, locals := 51 } : Room) s m args below meth c 0 0 (MQ below (zz_Qv D ca zz_dC A a P) args s 0 0 A) D ca zz_dC A 7 26 a [] [(0, .ref (a 37)), (1, .ref (a 14)), (2, .ref (a k2)), (3, .int y3)] I8 L8) (hK61 : ∀ (y4 : Int32) (I8 : zz_I) (L8 : zz_L), K61 y4 I8 L8 → zz_Go p l e ({ frames := 2, cells := 0, slots := 0, locals := 51 } : Room) s m args below meth c 0 0 (MQ below (zz_Qv D ca zz_dC A a P) args s 0 0 A) D ca zz_dC A 7 61 a [] [(0, .ref (a 37)), (1, .ref (a 14)), (2, .ref (a k2)), (3, .int x3), (4, .int y4)] I8 L8) (h : zp_X0_lay_61b K26 K61 P k2 x3 x4 I L) : zz_Go p l e ({ frames := 2, cells := 0, slots := 0, locals := 51 } : Room) s m args below meth c 0 0 (MQ below (zz_Qv D ca zz_dC A a P) args s 0 0 A) D ca zz_dC A 7 61 a [] [(0, .ref (a 37)), (1, .ref (a 14)), (2, .ref (a k2)), (3, .int x3), (4, .int x4)] I L := by
  obtain ⟨hx, hb, hml, hown, zw, hr, hlocks⟩ := id X
  intro H locs ls hB hl
  unfold zp_X0_lay_61b at h
  refine lv_iload hx hb dX0_lay_61 (lv_at hl 4 rfl) ?_
  refine lv_aload_n hx hb dX0_lay_63 rfl (lv_at hl 0 rfl) ?_
  refine zz_getr (k' := 41) hx hb hown zw hB zF_X0_21 zdC_37 rfl rfl dX0_lay_64 ?_
  refine lv_iload_n hx hb dX0_lay_67 rfl (lv_at hl 3 rfl) ?_
  obtain ⟨hi68, h⟩ := h
  refine zz_iald hx hb hB zdC_41 hi68 dX0_lay_68 ?_
  refine lv_iadd hx hb dX0_lay_69 ?_
  refine lv_aload_n hx hb dX0_lay_70 rfl (lv_at hl 0 rfl) ?_
  refine zz_geti hx hb hown zw hB zF_X0_31 zdC_37 rfl dX0_lay_71 ?_
  refine lv_icmp_gt (tgt := 159) hx hb dX0_lay_74 (by decide) (fun c74 => ?_) (fun c74 => ?_)
  · have h := h.1 c74
    obtain ⟨v159, ev159⟩ : ∃ z : Int32, z = x3 + (1 : Int32) := ⟨_, rfl⟩
    have h := h v159 ev159
    refine lv_iinc (v := v159) (lv' := [(3, .int v159), (0, .ref (a 37)), (1, .ref (a 14)), (2, .ref (a k2)), (4, .int x4)]) hx hb dX0_lay_159 hl (k := 3) rfl (by rw [ev159]; rfl) (by decide) rfl (fun ls hl => ?_)
    refine lv_goto (tgt := 26) hx hb dX0_lay_162 (by decide) ?_
    exact hK26 _ _ _ h H locs ls hB (lv_sub hl [1, 2, 3, 0] rfl)
  · have h := h.2 c74
    refine lv_aload_n hx hb dX0_lay_77 rfl (lv_at hl 2 rfl) ?_
    refine zz_geti hx hb hown zw hB zF_X0_86 hk2.1 rfl dX0_lay_78 ?_
    refine lv_iload_n hx hb dX0_lay_81 rfl (lv_at hl 3 rfl) ?_
    refine lv_ishr hx hb dX0_lay_82 ?_
    refine lv_iconst (v := (1 : Int32)) hx hb dX0_lay_83 (by decide) ?_
    refine lv_iand hx hb dX0_lay_84 ?_
    refine lv_if_ne (tgt := 159) hx hb dX0_lay_85 (by decide) (fun c85 => ?_) (fun c85 => ?_)
    · have h := h.1 c85
      obtain ⟨v159, ev159⟩ : ∃ z : Int32, z = x3 + (1 : Int32) := ⟨_, rfl⟩
      have h := h v159 ev159
      refine lv_iinc (v := v159) (lv' := [(3, .int v159), (0, .ref (a 37)), (1, .ref (a 14)), (2, .ref (a k2)), (4, .int x4)]) hx hb dX0_lay_159 hl (k := 3) rfl (by rw [ev159]; rfl) (by decide) rfl (fun ls hl => ?_)
      refine lv_goto (tgt := 26) hx hb dX0_lay_162 (by decide) ?_
      exact hK26 _ _ _ h H locs ls hB (lv_sub hl [1, 2, 3, 0] rfl)
    · have h := h.2 c85
      refine lv_iload hx hb dX0_lay_88 (lv_at hl 4 rfl) ?_
      refine lv_aload_n hx hb dX0_lay_90 rfl (lv_at hl 0 rfl) ?_
      refine zz_getr (k' := 41) hx hb hown zw hB zF_X0_21 zdC_37 rfl rfl dX0_lay_91 ?_
      refine lv_iload_n hx hb dX0_lay_94 rfl (lv_at hl 3 rfl) ?_
      obtain ⟨hi95, h⟩ := h
      refine zz_iald hx hb hB zdC_41 hi95 dX0_lay_95 ?_
      refine lv_iadd hx hb dX0_lay_96 ?_
      refine lv_topi (fun v97 ev97 => ?_)
      have h := h v97 ev97
      refine lv_istore (lv' := [(5, .int v97), (0, .ref (a 37)), (1, .ref (a 14)), (2, .ref (a k2)), (3, .int x3), (4, .int x4)]) hx hb dX0_lay_97 hl (by decide) rfl (fun ls hl => ?_)
      refine lv_iload hx hb dX0_lay_99 (lv_at hl 0 rfl) ?_
      refine lv_aload_n hx hb dX0_lay_101 rfl (lv_at hl 1 rfl) ?_
      refine zz_geti hx hb hown zw hB zF_X0_31 zdC_37 rfl dX0_lay_102 ?_
      refine lv_icmp_eq (tgt := 117) hx hb dX0_lay_105 (by decide) (fun c105 => ?_) (fun c105 => ?_)
      · have h := h.1 c105
        refine lv_iconst (v := (1 : Int32)) hx hb dX0_lay_117 (by decide) ?_
        refine lv_goto (tgt := 122) hx hb dX0_lay_118 (by decide) ?_
        exact zq_X0_lay_122 X hA hk2 hK26 hK61 h H locs ls hB (lv_sub hl [1, 2, 3, 4, 5] rfl)
      · have h := h.2 c105
        refine lv_aload_n hx hb dX0_lay_108 rfl (lv_at hl 3 rfl) ?_
        refine lv_iload hx hb dX0_lay_109 (lv_at hl 0 rfl) ?_
        refine zz_goip hB hA (zz_runV (As := [.int v97]) (rest := []) hx hb hml hown zw hB zM_X0_89 (zc_X6_holdsBlank l D ca a I L H.size hk2 h) hk2.1 rfl rfl hl.1 rfl (Nat.le_of_ble_eq_true rfl) rfl rfl ⟨Nat.le_of_ble_eq_true rfl, Nat.le_of_ble_eq_true rfl⟩ dX0_lay_111 ⟨Nat.le_of_ble_eq_true rfl, Nat.le_of_ble_eq_true rfl⟩) (fun r111 H locs h hB => ?_)
        refine lv_if_eq (tgt := 121) hx hb dX0_lay_114 (by decide) (fun c114 => ?_) (fun c114 => ?_)
        · have h := h.1 c114
          refine lv_iconst (v := (0 : Int32)) hx hb dX0_lay_121 (by decide) ?_
          exact zq_X0_lay_122 X hA hk2 hK26 hK61 h H locs ls hB (lv_sub hl [1, 2, 3, 4, 5] rfl)
        · have h := h.2 c114
          refine lv_iconst (v := (1 : Int32)) hx hb dX0_lay_117 (by decide) ?_
          refine lv_goto (tgt := 122) hx hb dX0_lay_118 (by decide) ?_
          exact zq_X0_lay_122 X hA hk2 hK26 hK61 h H locs ls hB (lv_sub hl [1, 2, 3, 4, 5] rfl)
def zp_X0_lay_61 (K26 : Int32 → zz_I → zz_L → Prop) (P : zz_I → zz_L → Prop) (k2 : Nat) (x3 : Int32) (x4 : Int32) (I : zz_I) (L : zz_L) : Prop := ∃ (Inv : Int32 → zz_I → zz_L → Prop) (μ : Int32 → zz_I → zz_L → Nat), Inv x4 I L ∧ ∀ (y4 : Int32) (I8 : zz_I) (L8 : zz_L), Inv y4 I8 L8 → zp_X0_lay_61b K26 (fun z4 I7 L7 => Inv z4 I7 L7 ∧ μ z4 I7 L7 < μ y4 I8 L8) P k2 x3 y4 I8 L8
set_option maxHeartbeats 4000000 in
set_option maxRecDepth 100000 in
theorem zq_X0_lay_61 {p : Program} {l : Launch} {e : Env} {s : State} {m : MethodId} {args : Array Value} {below : List Frame} {meth : Method} {c : Code} {D : va_G} {ca : Nat → ClassId} {A : Nat → Prop} {a : Nat → Nat} {K26 : Int32 → zz_I → zz_L → Prop} {P : zz_I → zz_L → Prop} {I : zz_I} {L : zz_L} {k2 : Nat} {x3 : Int32} {x4 : Int32} (X : zz_X p s m meth c cX0_lay RX0 none 7) (hA : ∀ q, s.heap.size ≤ q → A q) (hk2 : zz_isT k2) (hK26 : ∀ (y3 : Int32) (I8 : zz_I) (L8 : zz_L), K26 y3 I8 L8 → zz_Go p l e ({ frames := 2, cells := 0, slots := 0, locals := 51 } : Room) s m args below meth c 0 0 (MQ below (zz_Qv D ca zz_dC A a P) args s 0 0 A) D ca zz_dC A 7 26 a [] [(0, .ref (a 37)), (1, .ref (a 14)), (2, .ref (a k2)), (3, .int y3)] I8 L8) (h : zp_X0_lay_61 K26 P k2 x3 x4 I L) : zz_Go p l e ({ frames := 2, cells := 0, slots := 0, locals := 51 } : Room) s m args below meth c 0 0 (MQ below (zz_Qv D ca zz_dC A a P) args s 0 0 A) D ca zz_dC A 7 61 a [] [(0, .ref (a 37)), (1, .ref (a 14)), (2, .ref (a k2)), (3, .int x3), (4, .int x4)] I L := by
  unfold zp_X0_lay_61 at h
  obtain ⟨Inv, μ, hv0, hs⟩ := h
  have key : ∀ (n9 : Nat) (y4 : Int32) (I8 : zz_I) (L8 : zz_L), μ y4 I8 L8 < n9 → Inv y4 I8 L8 → zz_Go p l e ({ frames := 2, cells := 0, slots := 0, locals := 51 } : Room) s m args below meth c 0 0 (MQ below (zz_Qv D ca zz_dC A a P) args s 0 0 A) D ca zz_dC A 7 61 a [] [(0, .ref (a 37)), (1, .ref (a 14)), (2, .ref (a k2)), (3, .int x3), (4, .int y4)] I8 L8 := by
    intro n9
    induction n9 with
    | zero => intro y4 I8 L8 hn; exact absurd hn (Nat.not_lt_zero _)
    | succ n9 ih =>
      intro y4 I8 L8 hn hi
      exact zq_X0_lay_61b (K61 := (fun z4 I7 L7 => Inv z4 I7 L7 ∧ μ z4 I7 L7 < μ y4 I8 L8)) X hA hk2 hK26 (fun z4 I7 L7 hz => ih z4 I7 L7 (Nat.lt_of_lt_of_le hz.2 (Nat.le_of_lt_succ hn)) hz.1) (hs y4 I8 L8 hi)
  exact key _ x4 I L (Nat.lt_succ_self _) hv0
def zp_X0_lay_26b (K26 : Int32 → zz_I → zz_L → Prop) (P : zz_I → zz_L → Prop) (k2 : Nat) (x3 : Int32) (I : zz_I) (L : zz_L) : Prop := ((I 37 7) ≤ x3 → P I L) ∧ (¬ (I 37 7) ≤ x3 → vp_in x3 8 ∧ (vp_in x3 8 ∧ (∀ I45 : zz_I, I45 = zz_up I 41 x3.toNatClampNeg (I 20 x3.toNatClampNeg) → (zp_X0_followersOf k2 x3 (fun r54 => vp_in x3 8 ∧ (∀ I57 : zz_I, I57 = zz_up I45 40 x3.toNatClampNeg r54 → (zp_X0_lay_61 K26 P k2 x3 (0 : Int32) I57 L))) I45 L))))
set_option maxHeartbeats 4000000 in
set_option maxRecDepth 100000 in
theorem zq_X0_lay_26b {p : Program} {l : Launch} {e : Env} {s : State} {m : MethodId} {args : Array Value} {below : List Frame} {meth : Method} {c : Code} {D : va_G} {ca : Nat → ClassId} {A : Nat → Prop} {a : Nat → Nat} {K26 : Int32 → zz_I → zz_L → Prop} {P : zz_I → zz_L → Prop} {I : zz_I} {L : zz_L} {k2 : Nat} {x3 : Int32} (X : zz_X p s m meth c cX0_lay RX0 none 7) (hA : ∀ q, s.heap.size ≤ q → A q) (hk2 : zz_isT k2) (hK26 : ∀ (y3 : Int32) (I8 : zz_I) (L8 : zz_L), K26 y3 I8 L8 → zz_Go p l e ({ frames := 2, cells := 0, slots := 0, locals := 51 } : Room) s m args below meth c 0 0 (MQ below (zz_Qv D ca zz_dC A a P) args s 0 0 A) D ca zz_dC A 7 26 a [] [(0, .ref (a 37)), (1, .ref (a 14)), (2, .ref (a k2)), (3, .int y3)] I8 L8) (h : zp_X0_lay_26b K26 P k2 x3 I L) : zz_Go p l e ({ frames := 2, cells := 0, slots := 0, locals := 51 } : Room) s m args below meth c 0 0 (MQ below (zz_Qv D ca zz_dC A a P) args s 0 0 A) D ca zz_dC A 7 26 a [] [(0, .ref (a 37)), (1, .ref (a 14)), (2, .ref (a k2)), (3, .int x3)] I L := by
  obtain ⟨hx, hb, hml, hown, zw, hr, hlocks⟩ := id X
  intro H locs ls hB hl
  unfold zp_X0_lay_26b at h
  refine lv_iload_n hx hb dX0_lay_26 rfl (lv_at hl 3 rfl) ?_
  refine lv_aload_n hx hb dX0_lay_27 rfl (lv_at hl 0 rfl) ?_
  refine zz_geti hx hb hown zw hB zF_X0_35 zdC_37 rfl dX0_lay_28 ?_
  refine lv_icmp_ge (tgt := 165) hx hb dX0_lay_31 (by decide) (fun c31 => ?_) (fun c31 => ?_)
  · have h := h.1 c31
    exact zz_vret hx hb hr hlocks hB h dX0_lay_165
  · have h := h.2 c31
    refine lv_aload_n hx hb dX0_lay_34 rfl (lv_at hl 0 rfl) ?_
    refine zz_getr (k' := 41) hx hb hown zw hB zF_X0_21 zdC_37 rfl rfl dX0_lay_35 ?_
    refine lv_iload_n hx hb dX0_lay_38 rfl (lv_at hl 3 rfl) ?_
    refine lv_aload_n hx hb dX0_lay_39 rfl (lv_at hl 1 rfl) ?_
    refine zz_getr (k' := 20) hx hb hown zw hB zF_X0_81 zdC_14 rfl rfl dX0_lay_40 ?_
    refine lv_iload_n hx hb dX0_lay_43 rfl (lv_at hl 3 rfl) ?_
    obtain ⟨hi44, h⟩ := h
    refine zz_iald hx hb hB zdC_20 hi44 dX0_lay_44 ?_
    obtain ⟨hi45, h⟩ := h
    refine zz_iast hx hb hB zdC_41 hi45 dX0_lay_45 (fun H locs hB => ?_)
    obtain ⟨I45, eI45⟩ : ∃ z : zz_I, z = zz_up I 41 x3.toNatClampNeg (I 20 x3.toNatClampNeg) := ⟨_, rfl⟩
    rw [← eI45] at hB
    have h := h I45 eI45
    refine lv_aload_n hx hb dX0_lay_46 rfl (lv_at hl 0 rfl) ?_
    refine zz_getr (k' := 40) hx hb hown zw hB zF_X0_18 zdC_37 rfl rfl dX0_lay_47 ?_
    refine lv_iload_n hx hb dX0_lay_50 rfl (lv_at hl 3 rfl) ?_
    refine lv_aload_n hx hb dX0_lay_51 rfl (lv_at hl 1 rfl) ?_
    refine lv_aload_n hx hb dX0_lay_52 rfl (lv_at hl 2 rfl) ?_
    refine lv_iload_n hx hb dX0_lay_53 rfl (lv_at hl 3 rfl) ?_
    refine zz_goip hB hA (zz_runS (As := [.ref (a 14), .ref (a k2), .int x3]) (rest := [.int x3, .ref (a 40)]) hx hb hml hown zw hB zM_X0_82 (zc_X0_followersOf l D ca a I45 L H.size hk2 h) rfl hl.1 rfl (Nat.le_of_ble_eq_true rfl) rfl rfl ⟨Nat.le_of_ble_eq_true rfl, Nat.le_of_ble_eq_true rfl⟩ dX0_lay_54 ⟨Nat.le_of_ble_eq_true rfl, Nat.le_of_ble_eq_true rfl⟩) (fun r54 H locs h hB => ?_)
    obtain ⟨hi57, h⟩ := h
    refine zz_iast hx hb hB zdC_40 hi57 dX0_lay_57 (fun H locs hB => ?_)
    obtain ⟨I57, eI57⟩ : ∃ z : zz_I, z = zz_up I45 40 x3.toNatClampNeg r54 := ⟨_, rfl⟩
    rw [← eI57] at hB
    have h := h I57 eI57
    refine lv_iconst (v := (0 : Int32)) hx hb dX0_lay_58 (by decide) ?_
    refine lv_istore (lv' := [(4, .int (0 : Int32)), (0, .ref (a 37)), (1, .ref (a 14)), (2, .ref (a k2)), (3, .int x3)]) hx hb dX0_lay_59 hl (by decide) rfl (fun ls hl => ?_)
    exact zq_X0_lay_61 X hA hk2 hK26 h H locs ls hB (lv_sub hl [1, 2, 3, 4, 0] rfl)
def zp_X0_lay_26  (P : zz_I → zz_L → Prop) (k2 : Nat) (x3 : Int32) (I : zz_I) (L : zz_L) : Prop := ∃ (Inv : Int32 → zz_I → zz_L → Prop) (μ : Int32 → zz_I → zz_L → Nat), Inv x3 I L ∧ ∀ (y3 : Int32) (I8 : zz_I) (L8 : zz_L), Inv y3 I8 L8 → zp_X0_lay_26b  (fun z3 I7 L7 => Inv z3 I7 L7 ∧ μ z3 I7 L7 < μ y3 I8 L8) P k2 y3 I8 L8
set_option maxHeartbeats 4000000 in
set_option maxRecDepth 100000 in
theorem zq_X0_lay_26 {p : Program} {l : Launch} {e : Env} {s : State} {m : MethodId} {args : Array Value} {below : List Frame} {meth : Method} {c : Code} {D : va_G} {ca : Nat → ClassId} {A : Nat → Prop} {a : Nat → Nat}  {P : zz_I → zz_L → Prop} {I : zz_I} {L : zz_L} {k2 : Nat} {x3 : Int32} (X : zz_X p s m meth c cX0_lay RX0 none 7) (hA : ∀ q, s.heap.size ≤ q → A q) (hk2 : zz_isT k2)  (h : zp_X0_lay_26  P k2 x3 I L) : zz_Go p l e ({ frames := 2, cells := 0, slots := 0, locals := 51 } : Room) s m args below meth c 0 0 (MQ below (zz_Qv D ca zz_dC A a P) args s 0 0 A) D ca zz_dC A 7 26 a [] [(0, .ref (a 37)), (1, .ref (a 14)), (2, .ref (a k2)), (3, .int x3)] I L := by
  unfold zp_X0_lay_26 at h
  obtain ⟨Inv, μ, hv0, hs⟩ := h
  have key : ∀ (n9 : Nat) (y3 : Int32) (I8 : zz_I) (L8 : zz_L), μ y3 I8 L8 < n9 → Inv y3 I8 L8 → zz_Go p l e ({ frames := 2, cells := 0, slots := 0, locals := 51 } : Room) s m args below meth c 0 0 (MQ below (zz_Qv D ca zz_dC A a P) args s 0 0 A) D ca zz_dC A 7 26 a [] [(0, .ref (a 37)), (1, .ref (a 14)), (2, .ref (a k2)), (3, .int y3)] I8 L8 := by
    intro n9
    induction n9 with
    | zero => intro y3 I8 L8 hn; exact absurd hn (Nat.not_lt_zero _)
    | succ n9 ih =>
      intro y3 I8 L8 hn hi
      exact zq_X0_lay_26b (K26 := (fun z3 I7 L7 => Inv z3 I7 L7 ∧ μ z3 I7 L7 < μ y3 I8 L8)) X hA hk2  (fun z3 I7 L7 hz => ih z3 I7 L7 (Nat.lt_of_lt_of_le hz.2 (Nat.le_of_lt_succ hn)) hz.1) (hs y3 I8 L8 hi)
  exact key _ x3 I L (Nat.lt_succ_self _) hv0
def zp_X0_lay (k2 : Nat) (P : zz_I → zz_L → Prop) (I : zz_I) (L : zz_L) : Prop := ∀ I5 : zz_I, I5 = zz_up I 37 6 (I k2 3) → (∀ I13 : zz_I, I13 = zz_up I5 37 7 (I5 14 6) → (zp_J7_fill_53178 38 25 (0 : Int32) (fun I21 L21 => zp_X0_lay_26 P k2 (0 : Int32) I21 L21) I13 L))
set_option maxHeartbeats 4000000 in
set_option maxRecDepth 100000 in
theorem zq_X0_lay {p : Program} {l : Launch} {e : Env} {s : State} {m : MethodId} {args : Array Value} {below : List Frame} {meth : Method} {c : Code} {D : va_G} {ca : Nat → ClassId} {A : Nat → Prop} {a : Nat → Nat}  {P : zz_I → zz_L → Prop} {I : zz_I} {L : zz_L} {k2 : Nat} (X : zz_X p s m meth c cX0_lay RX0 none 7) (hA : ∀ q, s.heap.size ≤ q → A q) (hk2 : zz_isT k2)  (h : zp_X0_lay k2 P I L) : zz_Go p l e ({ frames := 2, cells := 0, slots := 0, locals := 51 } : Room) s m args below meth c 0 0 (MQ below (zz_Qv D ca zz_dC A a P) args s 0 0 A) D ca zz_dC A 7 0 a [] [(0, .ref (a 37)), (1, .ref (a 14)), (2, .ref (a k2))] I L := by
  obtain ⟨hx, hb, hml, hown, zw, hr, hlocks⟩ := id X
  intro H locs ls hB hl
  unfold zp_X0_lay at h
  refine lv_aload_n hx hb dX0_lay_0 rfl (lv_at hl 0 rfl) ?_
  refine lv_aload_n hx hb dX0_lay_1 rfl (lv_at hl 2 rfl) ?_
  refine zz_geti hx hb hown zw hB zF_X0_69 hk2.1 rfl dX0_lay_2 ?_
  refine zz_puti hx hb hown zw hB zP_X0_31 zdC_37 rfl dX0_lay_5 (fun H locs hB => ?_)
  obtain ⟨I5, eI5⟩ : ∃ z : zz_I, z = zz_up I 37 6 (I k2 3) := ⟨_, rfl⟩
  rw [← eI5] at hB
  have h := h I5 eI5
  refine lv_aload_n hx hb dX0_lay_8 rfl (lv_at hl 0 rfl) ?_
  refine lv_aload_n hx hb dX0_lay_9 rfl (lv_at hl 1 rfl) ?_
  refine zz_geti hx hb hown zw hB zF_X0_72 zdC_14 rfl dX0_lay_10 ?_
  refine zz_puti hx hb hown zw hB zP_X0_35 zdC_37 rfl dX0_lay_13 (fun H locs hB => ?_)
  obtain ⟨I13, eI13⟩ : ∃ z : zz_I, z = zz_up I5 37 7 (I5 14 6) := ⟨_, rfl⟩
  rw [← eI13] at hB
  have h := h I13 eI13
  refine lv_aload_n hx hb dX0_lay_16 rfl (lv_at hl 0 rfl) ?_
  refine zz_getr (k' := 38) hx hb hown zw hB zF_X0_9 zdC_37 rfl rfl dX0_lay_17 ?_
  refine lv_iconst (v := (0 : Int32)) hx hb dX0_lay_20 (by decide) ?_
  refine zz_gov hB hA (zz_runS (As := [.ref (a 38), .int (0 : Int32)]) (rest := []) hx hb hml hown zw hB zM_X0_75 (zc_J7_fill_53178 l D ca a I13 L H.size zdC_38 h) rfl hl.1 rfl (Nat.le_of_ble_eq_true rfl) rfl rfl ⟨Nat.le_of_ble_eq_true rfl, Nat.le_of_ble_eq_true rfl⟩ dX0_lay_21 ⟨Nat.le_of_ble_eq_true rfl, Nat.le_of_ble_eq_true rfl⟩) (fun I21 L21 H locs h hB => ?_)
  refine lv_iconst (v := (0 : Int32)) hx hb dX0_lay_24 (by decide) ?_
  refine lv_istore_n (lv' := [(3, .int (0 : Int32)), (0, .ref (a 37)), (1, .ref (a 14)), (2, .ref (a k2))]) hx hb dX0_lay_25 rfl hl (by decide) rfl (fun ls hl => ?_)
  exact zq_X0_lay_26 X hA hk2 h H locs ls hB (lv_sub hl [1, 2, 3, 0] rfl)
theorem zc_X0_lay (l : Launch) (D : va_G) (ca : Nat → ClassId) (a : Nat → Nat) (I : zz_I) (L : zz_L) (sz : Nat) {k2 : Nat} {P : zz_I → zz_L → Prop} (hk2 : zz_isT k2) (h : zp_X0_lay k2 P I L) : Met l yX0_lay [.code yX0_lay cX0_lay 7 none] ({ frames := 2, cells := 0, slots := 0, locals := 51 } : Room) (zz_Pre D ca zz_dC [.ref (a 37), .ref (a 14), .ref (a k2)] a I L sz) (zz_Qv D ca zz_dC (zz_A ca zz_dC a I L sz) a P) 0 0 (zz_A ca zz_dC a I L sz) :=
  zz_start (by decide) (Nat.le_of_ble_eq_true rfl) (fun p e s m below meth c X hsz hA => zq_X0_lay X hA hk2 h)
def zp_X0_isOpen (x1 : Int32) (x2 : Int32) (P : Int32 → Prop) (I : zz_I) (L : zz_L) : Prop := vp_in x1 25 ∧ (((((I 38 x1.toNatClampNeg) >>> (x2 &&& 31)) &&& (1 : Int32)) = 0 → P (0 : Int32)) ∧ (¬ (((I 38 x1.toNatClampNeg) >>> (x2 &&& 31)) &&& (1 : Int32)) = 0 → P (1 : Int32)))
set_option maxHeartbeats 4000000 in
set_option maxRecDepth 100000 in
theorem zq_X0_isOpen {p : Program} {l : Launch} {e : Env} {s : State} {m : MethodId} {args : Array Value} {below : List Frame} {meth : Method} {c : Code} {D : va_G} {ca : Nat → ClassId} {A : Nat → Prop} {a : Nat → Nat}  {P : Int32 → Prop} {I : zz_I} {L : zz_L} {x1 : Int32} {x2 : Int32} (X : zz_X p s m meth c cX0_isOpen RX0 (some .boolean) 3) (hA : ∀ q, s.heap.size ≤ q → A q)   (h : zp_X0_isOpen x1 x2 P I L) : zz_Go p l e ({ frames := 0, cells := 0, slots := 0, locals := 0 } : Room) s m args below meth c 0 0 (MQ below (zz_Qi D ca zz_dC A a (fun r I9 L9 => P r ∧ I9 = I ∧ L9 = L)) args s 0 0 A) D ca zz_dC A 3 0 a [] [(0, .ref (a 37)), (1, .int x1), (2, .int x2)] I L := by
  obtain ⟨hx, hb, hml, hown, zw, hr, hlocks⟩ := id X
  intro H locs ls hB hl
  unfold zp_X0_isOpen at h
  refine lv_aload_n hx hb dX0_isOpen_0 rfl (lv_at hl 0 rfl) ?_
  refine zz_getr (k' := 38) hx hb hown zw hB zF_X0_9 zdC_37 rfl rfl dX0_isOpen_1 ?_
  refine lv_iload_n hx hb dX0_isOpen_4 rfl (lv_at hl 1 rfl) ?_
  obtain ⟨hi5, h⟩ := h
  refine zz_iald hx hb hB zdC_38 hi5 dX0_isOpen_5 ?_
  refine lv_iload_n hx hb dX0_isOpen_6 rfl (lv_at hl 2 rfl) ?_
  refine lv_ishr hx hb dX0_isOpen_7 ?_
  refine lv_iconst (v := (1 : Int32)) hx hb dX0_isOpen_8 (by decide) ?_
  refine lv_iand hx hb dX0_isOpen_9 ?_
  refine lv_if_eq (tgt := 17) hx hb dX0_isOpen_10 (by decide) (fun c10 => ?_) (fun c10 => ?_)
  · have h := h.1 c10
    refine lv_iconst (v := (0 : Int32)) hx hb dX0_isOpen_17 (by decide) ?_
    exact zz_zret hx hb hr hlocks zz_bool0 hB ⟨h, rfl, rfl⟩ dX0_isOpen_18
  · have h := h.2 c10
    refine lv_iconst (v := (1 : Int32)) hx hb dX0_isOpen_13 (by decide) ?_
    refine lv_goto (tgt := 18) hx hb dX0_isOpen_14 (by decide) ?_
    exact zz_zret hx hb hr hlocks zz_bool1 hB ⟨h, rfl, rfl⟩ dX0_isOpen_18
theorem zc_X0_isOpen (l : Launch) (D : va_G) (ca : Nat → ClassId) (a : Nat → Nat) (I : zz_I) (L : zz_L) (sz : Nat) {x1 : Int32} {x2 : Int32} {P : Int32 → Prop}  (h : zp_X0_isOpen x1 x2 P I L) : Met l yX0_isOpen [.code yX0_isOpen cX0_isOpen 3 (some .boolean)] ({ frames := 0, cells := 0, slots := 0, locals := 0 } : Room) (zz_Pre D ca zz_dC [.ref (a 37), .int x1, .int x2] a I L sz) (zz_Qi D ca zz_dC (zz_A ca zz_dC a I L sz) a (fun r I9 L9 => P r ∧ I9 = I ∧ L9 = L)) 0 0 (zz_A ca zz_dC a I L sz) :=
  zz_start (by decide) (Nat.le_of_ble_eq_true rfl) (fun p e s m below meth c X hsz hA => zq_X0_isOpen X hA  h)
def zp_X0_nextUnit (x1 : Int32) (x2 : Int32) (P : Int32 → Prop) (I : zz_I) (L : zz_L) : Prop := vp_in x2 8 ∧ (P ((x1 + (I 41 x2.toNatClampNeg)) + (1 : Int32)))
set_option maxHeartbeats 4000000 in
set_option maxRecDepth 100000 in
theorem zq_X0_nextUnit {p : Program} {l : Launch} {e : Env} {s : State} {m : MethodId} {args : Array Value} {below : List Frame} {meth : Method} {c : Code} {D : va_G} {ca : Nat → ClassId} {A : Nat → Prop} {a : Nat → Nat}  {P : Int32 → Prop} {I : zz_I} {L : zz_L} {x1 : Int32} {x2 : Int32} (X : zz_X p s m meth c cX0_nextUnit RX0 (some .int) 3) (hA : ∀ q, s.heap.size ≤ q → A q)   (h : zp_X0_nextUnit x1 x2 P I L) : zz_Go p l e ({ frames := 0, cells := 0, slots := 0, locals := 0 } : Room) s m args below meth c 0 0 (MQ below (zz_Qi D ca zz_dC A a (fun r I9 L9 => P r ∧ I9 = I ∧ L9 = L)) args s 0 0 A) D ca zz_dC A 3 0 a [] [(0, .ref (a 37)), (1, .int x1), (2, .int x2)] I L := by
  obtain ⟨hx, hb, hml, hown, zw, hr, hlocks⟩ := id X
  intro H locs ls hB hl
  unfold zp_X0_nextUnit at h
  refine lv_iload_n hx hb dX0_nextUnit_0 rfl (lv_at hl 1 rfl) ?_
  refine lv_aload_n hx hb dX0_nextUnit_1 rfl (lv_at hl 0 rfl) ?_
  refine zz_getr (k' := 41) hx hb hown zw hB zF_X0_21 zdC_37 rfl rfl dX0_nextUnit_2 ?_
  refine lv_iload_n hx hb dX0_nextUnit_5 rfl (lv_at hl 2 rfl) ?_
  obtain ⟨hi6, h⟩ := h
  refine zz_iald hx hb hB zdC_41 hi6 dX0_nextUnit_6 ?_
  refine lv_iadd hx hb dX0_nextUnit_7 ?_
  refine lv_iconst (v := (1 : Int32)) hx hb dX0_nextUnit_8 (by decide) ?_
  refine lv_iadd hx hb dX0_nextUnit_9 ?_
  exact zz_iret hx hb hr hlocks hB ⟨h, rfl, rfl⟩ dX0_nextUnit_10
theorem zc_X0_nextUnit (l : Launch) (D : va_G) (ca : Nat → ClassId) (a : Nat → Nat) (I : zz_I) (L : zz_L) (sz : Nat) {x1 : Int32} {x2 : Int32} {P : Int32 → Prop}  (h : zp_X0_nextUnit x1 x2 P I L) : Met l yX0_nextUnit [.code yX0_nextUnit cX0_nextUnit 3 (some .int)] ({ frames := 0, cells := 0, slots := 0, locals := 0 } : Room) (zz_Pre D ca zz_dC [.ref (a 37), .int x1, .int x2] a I L sz) (zz_Qi D ca zz_dC (zz_A ca zz_dC a I L sz) a (fun r I9 L9 => P r ∧ I9 = I ∧ L9 = L)) 0 0 (zz_A ca zz_dC a I L sz) :=
  zz_start (by decide) (Nat.le_of_ble_eq_true rfl) (fun p e s m below meth c X hsz hA => zq_X0_nextUnit X hA  h)
def zp_X0_leadsOn (x1 : Int32) (x2 : Int32) (P : Int32 → Prop) (I : zz_I) (L : zz_L) : Prop := zp_X0_nextUnit x1 x2 (fun r3 => ((I 37 6) < r3 → P (1 : Int32)) ∧ (¬ (I 37 6) < r3 → vp_in r3 25 ∧ (vp_in x2 8 ∧ ((((I 38 r3.toNatClampNeg) &&& (I 40 x2.toNatClampNeg)) = 0 → P (0 : Int32)) ∧ (¬ ((I 38 r3.toNatClampNeg) &&& (I 40 x2.toNatClampNeg)) = 0 → P (1 : Int32)))))) I L
set_option maxHeartbeats 4000000 in
set_option maxRecDepth 100000 in
theorem zq_X0_leadsOn {p : Program} {l : Launch} {e : Env} {s : State} {m : MethodId} {args : Array Value} {below : List Frame} {meth : Method} {c : Code} {D : va_G} {ca : Nat → ClassId} {A : Nat → Prop} {a : Nat → Nat}  {P : Int32 → Prop} {I : zz_I} {L : zz_L} {x1 : Int32} {x2 : Int32} (X : zz_X p s m meth c cX0_leadsOn RX0 (some .boolean) 4) (hA : ∀ q, s.heap.size ≤ q → A q)   (h : zp_X0_leadsOn x1 x2 P I L) : zz_Go p l e ({ frames := 1, cells := 0, slots := 0, locals := 22 } : Room) s m args below meth c 0 0 (MQ below (zz_Qi D ca zz_dC A a (fun r I9 L9 => P r ∧ I9 = I ∧ L9 = L)) args s 0 0 A) D ca zz_dC A 4 0 a [] [(0, .ref (a 37)), (1, .int x1), (2, .int x2)] I L := by
  obtain ⟨hx, hb, hml, hown, zw, hr, hlocks⟩ := id X
  intro H locs ls hB hl
  unfold zp_X0_leadsOn at h
  refine lv_aload_n hx hb dX0_leadsOn_0 rfl (lv_at hl 0 rfl) ?_
  refine lv_iload_n hx hb dX0_leadsOn_1 rfl (lv_at hl 1 rfl) ?_
  refine lv_iload_n hx hb dX0_leadsOn_2 rfl (lv_at hl 2 rfl) ?_
  refine zz_goip hB hA (zz_runV (As := [.int x1, .int x2]) (rest := []) hx hb hml hown zw hB zM_X0_110 (zc_X0_nextUnit l D ca a I L H.size h) zdC_37 rfl rfl hl.1 rfl (Nat.le_of_ble_eq_true rfl) rfl rfl ⟨Nat.le_of_ble_eq_true rfl, Nat.le_of_ble_eq_true rfl⟩ dX0_leadsOn_3 ⟨Nat.le_of_ble_eq_true rfl, Nat.le_of_ble_eq_true rfl⟩) (fun r3 H locs h hB => ?_)
  refine lv_istore_n (lv' := [(3, .int r3), (0, .ref (a 37)), (1, .int x1), (2, .int x2)]) hx hb dX0_leadsOn_6 rfl hl (by decide) rfl (fun ls hl => ?_)
  refine lv_iload_n hx hb dX0_leadsOn_7 rfl (lv_at hl 0 rfl) ?_
  refine lv_aload_n hx hb dX0_leadsOn_8 rfl (lv_at hl 1 rfl) ?_
  refine zz_geti hx hb hown zw hB zF_X0_31 zdC_37 rfl dX0_leadsOn_9 ?_
  refine lv_icmp_gt (tgt := 31) hx hb dX0_leadsOn_12 (by decide) (fun c12 => ?_) (fun c12 => ?_)
  · have h := h.1 c12
    refine lv_iconst (v := (1 : Int32)) hx hb dX0_leadsOn_31 (by decide) ?_
    refine lv_goto (tgt := 36) hx hb dX0_leadsOn_32 (by decide) ?_
    exact zz_zret hx hb hr hlocks zz_bool1 hB ⟨h, rfl, rfl⟩ dX0_leadsOn_36
  · have h := h.2 c12
    refine lv_aload_n hx hb dX0_leadsOn_15 rfl (lv_at hl 1 rfl) ?_
    refine zz_getr (k' := 38) hx hb hown zw hB zF_X0_9 zdC_37 rfl rfl dX0_leadsOn_16 ?_
    refine lv_iload_n hx hb dX0_leadsOn_19 rfl (lv_at hl 0 rfl) ?_
    obtain ⟨hi20, h⟩ := h
    refine zz_iald hx hb hB zdC_38 hi20 dX0_leadsOn_20 ?_
    refine lv_aload_n hx hb dX0_leadsOn_21 rfl (lv_at hl 1 rfl) ?_
    refine zz_getr (k' := 40) hx hb hown zw hB zF_X0_18 zdC_37 rfl rfl dX0_leadsOn_22 ?_
    refine lv_iload_n hx hb dX0_leadsOn_25 rfl (lv_at hl 3 rfl) ?_
    obtain ⟨hi26, h⟩ := h
    refine zz_iald hx hb hB zdC_40 hi26 dX0_leadsOn_26 ?_
    refine lv_iand hx hb dX0_leadsOn_27 ?_
    refine lv_if_eq (tgt := 35) hx hb dX0_leadsOn_28 (by decide) (fun c28 => ?_) (fun c28 => ?_)
    · have h := h.1 c28
      refine lv_iconst (v := (0 : Int32)) hx hb dX0_leadsOn_35 (by decide) ?_
      exact zz_zret hx hb hr hlocks zz_bool0 hB ⟨h, rfl, rfl⟩ dX0_leadsOn_36
    · have h := h.2 c28
      refine lv_iconst (v := (1 : Int32)) hx hb dX0_leadsOn_31 (by decide) ?_
      refine lv_goto (tgt := 36) hx hb dX0_leadsOn_32 (by decide) ?_
      exact zz_zret hx hb hr hlocks zz_bool1 hB ⟨h, rfl, rfl⟩ dX0_leadsOn_36
theorem zc_X0_leadsOn (l : Launch) (D : va_G) (ca : Nat → ClassId) (a : Nat → Nat) (I : zz_I) (L : zz_L) (sz : Nat) {x1 : Int32} {x2 : Int32} {P : Int32 → Prop}  (h : zp_X0_leadsOn x1 x2 P I L) : Met l yX0_leadsOn [.code yX0_leadsOn cX0_leadsOn 4 (some .boolean)] ({ frames := 1, cells := 0, slots := 0, locals := 22 } : Room) (zz_Pre D ca zz_dC [.ref (a 37), .int x1, .int x2] a I L sz) (zz_Qi D ca zz_dC (zz_A ca zz_dC a I L sz) a (fun r I9 L9 => P r ∧ I9 = I ∧ L9 = L)) 0 0 (zz_A ca zz_dC a I L sz) :=
  zz_start (by decide) (Nat.le_of_ble_eq_true rfl) (fun p e s m below meth c X hsz hA => zq_X0_leadsOn X hA  h)
def zp_X0_prune_129b (K89 : Int32 → zz_I → zz_L → Prop) (K129 : Int32 → zz_I → zz_L → Prop) (P : zz_I → zz_L → Prop) (x1 : Int32) (x2 : Int32) (I : zz_I) (L : zz_L) : Prop := ((I 37 7) ≤ x2 → ∀ v185 : Int32, v185 = x1 + (1 : Int32) → (K89 v185 I L)) ∧ (¬ (I 37 7) ≤ x2 → zp_X0_isOpen x1 x2 (fun r140 => (r140 = 0 → ∀ v179 : Int32, v179 = x2 + (1 : Int32) → (K129 v179 I L)) ∧ (¬ r140 = 0 → zp_X0_nextUnit x1 x2 (fun r149 => ((I 37 6) < r149 → ∀ v179 : Int32, v179 = x2 + (1 : Int32) → (K129 v179 I L)) ∧ (¬ (I 37 6) < r149 → zp_X0_nextUnit x1 x2 (fun r166 => vp_in r166 25 ∧ (vp_in x2 8 ∧ (vp_in r166 25 ∧ (∀ I178 : zz_I, I178 = zz_up I 39 r166.toNatClampNeg ((I 39 r166.toNatClampNeg) ||| (I 40 x2.toNatClampNeg)) → (∀ v179 : Int32, v179 = x2 + (1 : Int32) → (K129 v179 I178 L)))))) I L)) I L)) I L)
set_option maxHeartbeats 4000000 in
set_option maxRecDepth 100000 in
theorem zq_X0_prune_129b {p : Program} {l : Launch} {e : Env} {s : State} {m : MethodId} {args : Array Value} {below : List Frame} {meth : Method} {c : Code} {D : va_G} {ca : Nat → ClassId} {A : Nat → Prop} {a : Nat → Nat} {K89 : Int32 → zz_I → zz_L → Prop} {K129 : Int32 → zz_I → zz_L → Prop} {P : zz_I → zz_L → Prop} {I : zz_I} {L : zz_L} {x1 : Int32} {x2 : Int32} (X : zz_X p s m meth c cX0_prune RX0 none 3) (hA : ∀ q, s.heap.size ≤ q → A q)  (hK89 : ∀ (y1 : Int32) (I8 : zz_I) (L8 : zz_L), K89 y1 I8 L8 → zz_Go p l e ({ frames := 2, cells := 0, slots := 0, locals := 45 } : Room) s m args below meth c 0 0 (MQ below (zz_Qv D ca zz_dC A a P) args s 0 0 A) D ca zz_dC A 3 89 a [] [(0, .ref (a 37)), (1, .int y1)] I8 L8) (hK129 : ∀ (y2 : Int32) (I8 : zz_I) (L8 : zz_L), K129 y2 I8 L8 → zz_Go p l e ({ frames := 2, cells := 0, slots := 0, locals := 45 } : Room) s m args below meth c 0 0 (MQ below (zz_Qv D ca zz_dC A a P) args s 0 0 A) D ca zz_dC A 3 129 a [] [(0, .ref (a 37)), (1, .int x1), (2, .int y2)] I8 L8) (h : zp_X0_prune_129b K89 K129 P x1 x2 I L) : zz_Go p l e ({ frames := 2, cells := 0, slots := 0, locals := 45 } : Room) s m args below meth c 0 0 (MQ below (zz_Qv D ca zz_dC A a P) args s 0 0 A) D ca zz_dC A 3 129 a [] [(0, .ref (a 37)), (1, .int x1), (2, .int x2)] I L := by
  obtain ⟨hx, hb, hml, hown, zw, hr, hlocks⟩ := id X
  intro H locs ls hB hl
  unfold zp_X0_prune_129b at h
  refine lv_iload_n hx hb dX0_prune_129 rfl (lv_at hl 2 rfl) ?_
  refine lv_aload_n hx hb dX0_prune_130 rfl (lv_at hl 0 rfl) ?_
  refine zz_geti hx hb hown zw hB zF_X0_35 zdC_37 rfl dX0_prune_131 ?_
  refine lv_icmp_ge (tgt := 185) hx hb dX0_prune_134 (by decide) (fun c134 => ?_) (fun c134 => ?_)
  · have h := h.1 c134
    obtain ⟨v185, ev185⟩ : ∃ z : Int32, z = x1 + (1 : Int32) := ⟨_, rfl⟩
    have h := h v185 ev185
    refine lv_iinc (v := v185) (lv' := [(1, .int v185), (0, .ref (a 37)), (2, .int x2)]) hx hb dX0_prune_185 hl (k := 1) rfl (by rw [ev185]; rfl) (by decide) rfl (fun ls hl => ?_)
    refine lv_goto (tgt := 89) hx hb dX0_prune_188 (by decide) ?_
    exact hK89 _ _ _ h H locs ls hB (lv_sub hl [1, 0] rfl)
  · have h := h.2 c134
    refine lv_aload_n hx hb dX0_prune_137 rfl (lv_at hl 0 rfl) ?_
    refine lv_iload_n hx hb dX0_prune_138 rfl (lv_at hl 1 rfl) ?_
    refine lv_iload_n hx hb dX0_prune_139 rfl (lv_at hl 2 rfl) ?_
    refine zz_goip hB hA (zz_runV (As := [.int x1, .int x2]) (rest := []) hx hb hml hown zw hB zM_X0_106 (zc_X0_isOpen l D ca a I L H.size h) zdC_37 rfl rfl hl.1 rfl (Nat.le_of_ble_eq_true rfl) rfl rfl ⟨Nat.le_of_ble_eq_true rfl, Nat.le_of_ble_eq_true rfl⟩ dX0_prune_140 ⟨Nat.le_of_ble_eq_true rfl, Nat.le_of_ble_eq_true rfl⟩) (fun r140 H locs h hB => ?_)
    refine lv_if_eq (tgt := 179) hx hb dX0_prune_143 (by decide) (fun c143 => ?_) (fun c143 => ?_)
    · have h := h.1 c143
      obtain ⟨v179, ev179⟩ : ∃ z : Int32, z = x2 + (1 : Int32) := ⟨_, rfl⟩
      have h := h v179 ev179
      refine lv_iinc (v := v179) (lv' := [(2, .int v179), (0, .ref (a 37)), (1, .int x1)]) hx hb dX0_prune_179 hl (k := 2) rfl (by rw [ev179]; rfl) (by decide) rfl (fun ls hl => ?_)
      refine lv_goto (tgt := 129) hx hb dX0_prune_182 (by decide) ?_
      exact hK129 _ _ _ h H locs ls hB (lv_sub hl [1, 2, 0] rfl)
    · have h := h.2 c143
      refine lv_aload_n hx hb dX0_prune_146 rfl (lv_at hl 0 rfl) ?_
      refine lv_iload_n hx hb dX0_prune_147 rfl (lv_at hl 1 rfl) ?_
      refine lv_iload_n hx hb dX0_prune_148 rfl (lv_at hl 2 rfl) ?_
      refine zz_goip hB hA (zz_runV (As := [.int x1, .int x2]) (rest := []) hx hb hml hown zw hB zM_X0_110 (zc_X0_nextUnit l D ca a I L H.size h) zdC_37 rfl rfl hl.1 rfl (Nat.le_of_ble_eq_true rfl) rfl rfl ⟨Nat.le_of_ble_eq_true rfl, Nat.le_of_ble_eq_true rfl⟩ dX0_prune_149 ⟨Nat.le_of_ble_eq_true rfl, Nat.le_of_ble_eq_true rfl⟩) (fun r149 H locs h hB => ?_)
      refine lv_aload_n hx hb dX0_prune_152 rfl (lv_at hl 0 rfl) ?_
      refine zz_geti hx hb hown zw hB zF_X0_31 zdC_37 rfl dX0_prune_153 ?_
      refine lv_icmp_gt (tgt := 179) hx hb dX0_prune_156 (by decide) (fun c156 => ?_) (fun c156 => ?_)
      · have h := h.1 c156
        obtain ⟨v179, ev179⟩ : ∃ z : Int32, z = x2 + (1 : Int32) := ⟨_, rfl⟩
        have h := h v179 ev179
        refine lv_iinc (v := v179) (lv' := [(2, .int v179), (0, .ref (a 37)), (1, .int x1)]) hx hb dX0_prune_179 hl (k := 2) rfl (by rw [ev179]; rfl) (by decide) rfl (fun ls hl => ?_)
        refine lv_goto (tgt := 129) hx hb dX0_prune_182 (by decide) ?_
        exact hK129 _ _ _ h H locs ls hB (lv_sub hl [1, 2, 0] rfl)
      · have h := h.2 c156
        refine lv_aload_n hx hb dX0_prune_159 rfl (lv_at hl 0 rfl) ?_
        refine zz_getr (k' := 39) hx hb hown zw hB zF_X0_15 zdC_37 rfl rfl dX0_prune_160 ?_
        refine lv_aload_n hx hb dX0_prune_163 rfl (lv_at hl 0 rfl) ?_
        refine lv_iload_n hx hb dX0_prune_164 rfl (lv_at hl 1 rfl) ?_
        refine lv_iload_n hx hb dX0_prune_165 rfl (lv_at hl 2 rfl) ?_
        refine zz_goip hB hA (zz_runV (As := [.int x1, .int x2]) (rest := [.ref (a 39)]) hx hb hml hown zw hB zM_X0_110 (zc_X0_nextUnit l D ca a I L H.size h) zdC_37 rfl rfl hl.1 rfl (Nat.le_of_ble_eq_true rfl) rfl rfl ⟨Nat.le_of_ble_eq_true rfl, Nat.le_of_ble_eq_true rfl⟩ dX0_prune_166 ⟨Nat.le_of_ble_eq_true rfl, Nat.le_of_ble_eq_true rfl⟩) (fun r166 H locs h hB => ?_)
        refine lv_dup2_11 hx hb dX0_prune_169 rfl rfl ?_
        obtain ⟨hi170, h⟩ := h
        refine zz_iald hx hb hB zdC_39 hi170 dX0_prune_170 ?_
        refine lv_aload_n hx hb dX0_prune_171 rfl (lv_at hl 0 rfl) ?_
        refine zz_getr (k' := 40) hx hb hown zw hB zF_X0_18 zdC_37 rfl rfl dX0_prune_172 ?_
        refine lv_iload_n hx hb dX0_prune_175 rfl (lv_at hl 2 rfl) ?_
        obtain ⟨hi176, h⟩ := h
        refine zz_iald hx hb hB zdC_40 hi176 dX0_prune_176 ?_
        refine lv_ior hx hb dX0_prune_177 ?_
        obtain ⟨hi178, h⟩ := h
        refine zz_iast hx hb hB zdC_39 hi178 dX0_prune_178 (fun H locs hB => ?_)
        obtain ⟨I178, eI178⟩ : ∃ z : zz_I, z = zz_up I 39 r166.toNatClampNeg ((I 39 r166.toNatClampNeg) ||| (I 40 x2.toNatClampNeg)) := ⟨_, rfl⟩
        rw [← eI178] at hB
        have h := h I178 eI178
        obtain ⟨v179, ev179⟩ : ∃ z : Int32, z = x2 + (1 : Int32) := ⟨_, rfl⟩
        have h := h v179 ev179
        refine lv_iinc (v := v179) (lv' := [(2, .int v179), (0, .ref (a 37)), (1, .int x1)]) hx hb dX0_prune_179 hl (k := 2) rfl (by rw [ev179]; rfl) (by decide) rfl (fun ls hl => ?_)
        refine lv_goto (tgt := 129) hx hb dX0_prune_182 (by decide) ?_
        exact hK129 _ _ _ h H locs ls hB (lv_sub hl [1, 2, 0] rfl)
def zp_X0_prune_129 (K89 : Int32 → zz_I → zz_L → Prop) (P : zz_I → zz_L → Prop) (x1 : Int32) (x2 : Int32) (I : zz_I) (L : zz_L) : Prop := ∃ (Inv : Int32 → zz_I → zz_L → Prop) (μ : Int32 → zz_I → zz_L → Nat), Inv x2 I L ∧ ∀ (y2 : Int32) (I8 : zz_I) (L8 : zz_L), Inv y2 I8 L8 → zp_X0_prune_129b K89 (fun z2 I7 L7 => Inv z2 I7 L7 ∧ μ z2 I7 L7 < μ y2 I8 L8) P x1 y2 I8 L8
set_option maxHeartbeats 4000000 in
set_option maxRecDepth 100000 in
theorem zq_X0_prune_129 {p : Program} {l : Launch} {e : Env} {s : State} {m : MethodId} {args : Array Value} {below : List Frame} {meth : Method} {c : Code} {D : va_G} {ca : Nat → ClassId} {A : Nat → Prop} {a : Nat → Nat} {K89 : Int32 → zz_I → zz_L → Prop} {P : zz_I → zz_L → Prop} {I : zz_I} {L : zz_L} {x1 : Int32} {x2 : Int32} (X : zz_X p s m meth c cX0_prune RX0 none 3) (hA : ∀ q, s.heap.size ≤ q → A q)  (hK89 : ∀ (y1 : Int32) (I8 : zz_I) (L8 : zz_L), K89 y1 I8 L8 → zz_Go p l e ({ frames := 2, cells := 0, slots := 0, locals := 45 } : Room) s m args below meth c 0 0 (MQ below (zz_Qv D ca zz_dC A a P) args s 0 0 A) D ca zz_dC A 3 89 a [] [(0, .ref (a 37)), (1, .int y1)] I8 L8) (h : zp_X0_prune_129 K89 P x1 x2 I L) : zz_Go p l e ({ frames := 2, cells := 0, slots := 0, locals := 45 } : Room) s m args below meth c 0 0 (MQ below (zz_Qv D ca zz_dC A a P) args s 0 0 A) D ca zz_dC A 3 129 a [] [(0, .ref (a 37)), (1, .int x1), (2, .int x2)] I L := by
  unfold zp_X0_prune_129 at h
  obtain ⟨Inv, μ, hv0, hs⟩ := h
  have key : ∀ (n9 : Nat) (y2 : Int32) (I8 : zz_I) (L8 : zz_L), μ y2 I8 L8 < n9 → Inv y2 I8 L8 → zz_Go p l e ({ frames := 2, cells := 0, slots := 0, locals := 45 } : Room) s m args below meth c 0 0 (MQ below (zz_Qv D ca zz_dC A a P) args s 0 0 A) D ca zz_dC A 3 129 a [] [(0, .ref (a 37)), (1, .int x1), (2, .int y2)] I8 L8 := by
    intro n9
    induction n9 with
    | zero => intro y2 I8 L8 hn; exact absurd hn (Nat.not_lt_zero _)
    | succ n9 ih =>
      intro y2 I8 L8 hn hi
      exact zq_X0_prune_129b (K129 := (fun z2 I7 L7 => Inv z2 I7 L7 ∧ μ z2 I7 L7 < μ y2 I8 L8)) X hA  hK89 (fun z2 I7 L7 hz => ih z2 I7 L7 (Nat.lt_of_lt_of_le hz.2 (Nat.le_of_lt_succ hn)) hz.1) (hs y2 I8 L8 hi)
  exact key _ x2 I L (Nat.lt_succ_self _) hv0
def zp_X0_prune_89b (K89 : Int32 → zz_I → zz_L → Prop) (P : zz_I → zz_L → Prop) (x1 : Int32) (I : zz_I) (L : zz_L) : Prop := ((I 37 6) ≤ x1 → P I L) ∧ (¬ (I 37 6) ≤ x1 → vp_in x1 25 ∧ (vp_in x1 25 ∧ (vp_in x1 25 ∧ (∀ I111 : zz_I, I111 = zz_up I 38 x1.toNatClampNeg ((I 38 x1.toNatClampNeg) &&& (I 39 x1.toNatClampNeg)) → (vp_in x1 25 ∧ (∀ I124 : zz_I, I124 = zz_up I111 37 8 ((I111 37 8) ||| (I111 38 x1.toNatClampNeg)) → (zp_X0_prune_129 K89 P x1 (0 : Int32) I124 L)))))))
set_option maxHeartbeats 4000000 in
set_option maxRecDepth 100000 in
theorem zq_X0_prune_89b {p : Program} {l : Launch} {e : Env} {s : State} {m : MethodId} {args : Array Value} {below : List Frame} {meth : Method} {c : Code} {D : va_G} {ca : Nat → ClassId} {A : Nat → Prop} {a : Nat → Nat} {K89 : Int32 → zz_I → zz_L → Prop} {P : zz_I → zz_L → Prop} {I : zz_I} {L : zz_L} {x1 : Int32} (X : zz_X p s m meth c cX0_prune RX0 none 3) (hA : ∀ q, s.heap.size ≤ q → A q)  (hK89 : ∀ (y1 : Int32) (I8 : zz_I) (L8 : zz_L), K89 y1 I8 L8 → zz_Go p l e ({ frames := 2, cells := 0, slots := 0, locals := 45 } : Room) s m args below meth c 0 0 (MQ below (zz_Qv D ca zz_dC A a P) args s 0 0 A) D ca zz_dC A 3 89 a [] [(0, .ref (a 37)), (1, .int y1)] I8 L8) (h : zp_X0_prune_89b K89 P x1 I L) : zz_Go p l e ({ frames := 2, cells := 0, slots := 0, locals := 45 } : Room) s m args below meth c 0 0 (MQ below (zz_Qv D ca zz_dC A a P) args s 0 0 A) D ca zz_dC A 3 89 a [] [(0, .ref (a 37)), (1, .int x1)] I L := by
  obtain ⟨hx, hb, hml, hown, zw, hr, hlocks⟩ := id X
  intro H locs ls hB hl
  unfold zp_X0_prune_89b at h
  refine lv_iload_n hx hb dX0_prune_89 rfl (lv_at hl 1 rfl) ?_
  refine lv_aload_n hx hb dX0_prune_90 rfl (lv_at hl 0 rfl) ?_
  refine zz_geti hx hb hown zw hB zF_X0_31 zdC_37 rfl dX0_prune_91 ?_
  refine lv_icmp_ge (tgt := 191) hx hb dX0_prune_94 (by decide) (fun c94 => ?_) (fun c94 => ?_)
  · have h := h.1 c94
    exact zz_vret hx hb hr hlocks hB h dX0_prune_191
  · have h := h.2 c94
    refine lv_aload_n hx hb dX0_prune_97 rfl (lv_at hl 0 rfl) ?_
    refine zz_getr (k' := 38) hx hb hown zw hB zF_X0_9 zdC_37 rfl rfl dX0_prune_98 ?_
    refine lv_iload_n hx hb dX0_prune_101 rfl (lv_at hl 1 rfl) ?_
    refine lv_dup2_11 hx hb dX0_prune_102 rfl rfl ?_
    obtain ⟨hi103, h⟩ := h
    refine zz_iald hx hb hB zdC_38 hi103 dX0_prune_103 ?_
    refine lv_aload_n hx hb dX0_prune_104 rfl (lv_at hl 0 rfl) ?_
    refine zz_getr (k' := 39) hx hb hown zw hB zF_X0_15 zdC_37 rfl rfl dX0_prune_105 ?_
    refine lv_iload_n hx hb dX0_prune_108 rfl (lv_at hl 1 rfl) ?_
    obtain ⟨hi109, h⟩ := h
    refine zz_iald hx hb hB zdC_39 hi109 dX0_prune_109 ?_
    refine lv_iand hx hb dX0_prune_110 ?_
    obtain ⟨hi111, h⟩ := h
    refine zz_iast hx hb hB zdC_38 hi111 dX0_prune_111 (fun H locs hB => ?_)
    obtain ⟨I111, eI111⟩ : ∃ z : zz_I, z = zz_up I 38 x1.toNatClampNeg ((I 38 x1.toNatClampNeg) &&& (I 39 x1.toNatClampNeg)) := ⟨_, rfl⟩
    rw [← eI111] at hB
    have h := h I111 eI111
    refine lv_aload_n hx hb dX0_prune_112 rfl (lv_at hl 0 rfl) ?_
    refine lv_dup hx hb dX0_prune_113 rfl ?_
    refine zz_geti hx hb hown zw hB zF_X0_38 zdC_37 rfl dX0_prune_114 ?_
    refine lv_aload_n hx hb dX0_prune_117 rfl (lv_at hl 0 rfl) ?_
    refine zz_getr (k' := 38) hx hb hown zw hB zF_X0_9 zdC_37 rfl rfl dX0_prune_118 ?_
    refine lv_iload_n hx hb dX0_prune_121 rfl (lv_at hl 1 rfl) ?_
    obtain ⟨hi122, h⟩ := h
    refine zz_iald hx hb hB zdC_38 hi122 dX0_prune_122 ?_
    refine lv_ior hx hb dX0_prune_123 ?_
    refine zz_puti hx hb hown zw hB zP_X0_38 zdC_37 rfl dX0_prune_124 (fun H locs hB => ?_)
    obtain ⟨I124, eI124⟩ : ∃ z : zz_I, z = zz_up I111 37 8 ((I111 37 8) ||| (I111 38 x1.toNatClampNeg)) := ⟨_, rfl⟩
    rw [← eI124] at hB
    have h := h I124 eI124
    refine lv_iconst (v := (0 : Int32)) hx hb dX0_prune_127 (by decide) ?_
    refine lv_istore_n (lv' := [(2, .int (0 : Int32)), (0, .ref (a 37)), (1, .int x1)]) hx hb dX0_prune_128 rfl hl (by decide) rfl (fun ls hl => ?_)
    exact zq_X0_prune_129 X hA hK89 h H locs ls hB (lv_sub hl [1, 2, 0] rfl)
def zp_X0_prune_89  (P : zz_I → zz_L → Prop) (x1 : Int32) (I : zz_I) (L : zz_L) : Prop := ∃ (Inv : Int32 → zz_I → zz_L → Prop) (μ : Int32 → zz_I → zz_L → Nat), Inv x1 I L ∧ ∀ (y1 : Int32) (I8 : zz_I) (L8 : zz_L), Inv y1 I8 L8 → zp_X0_prune_89b  (fun z1 I7 L7 => Inv z1 I7 L7 ∧ μ z1 I7 L7 < μ y1 I8 L8) P y1 I8 L8
set_option maxHeartbeats 4000000 in
set_option maxRecDepth 100000 in
theorem zq_X0_prune_89 {p : Program} {l : Launch} {e : Env} {s : State} {m : MethodId} {args : Array Value} {below : List Frame} {meth : Method} {c : Code} {D : va_G} {ca : Nat → ClassId} {A : Nat → Prop} {a : Nat → Nat}  {P : zz_I → zz_L → Prop} {I : zz_I} {L : zz_L} {x1 : Int32} (X : zz_X p s m meth c cX0_prune RX0 none 3) (hA : ∀ q, s.heap.size ≤ q → A q)   (h : zp_X0_prune_89  P x1 I L) : zz_Go p l e ({ frames := 2, cells := 0, slots := 0, locals := 45 } : Room) s m args below meth c 0 0 (MQ below (zz_Qv D ca zz_dC A a P) args s 0 0 A) D ca zz_dC A 3 89 a [] [(0, .ref (a 37)), (1, .int x1)] I L := by
  unfold zp_X0_prune_89 at h
  obtain ⟨Inv, μ, hv0, hs⟩ := h
  have key : ∀ (n9 : Nat) (y1 : Int32) (I8 : zz_I) (L8 : zz_L), μ y1 I8 L8 < n9 → Inv y1 I8 L8 → zz_Go p l e ({ frames := 2, cells := 0, slots := 0, locals := 45 } : Room) s m args below meth c 0 0 (MQ below (zz_Qv D ca zz_dC A a P) args s 0 0 A) D ca zz_dC A 3 89 a [] [(0, .ref (a 37)), (1, .int y1)] I8 L8 := by
    intro n9
    induction n9 with
    | zero => intro y1 I8 L8 hn; exact absurd hn (Nat.not_lt_zero _)
    | succ n9 ih =>
      intro y1 I8 L8 hn hi
      exact zq_X0_prune_89b (K89 := (fun z1 I7 L7 => Inv z1 I7 L7 ∧ μ z1 I7 L7 < μ y1 I8 L8)) X hA   (fun z1 I7 L7 hz => ih z1 I7 L7 (Nat.lt_of_lt_of_le hz.2 (Nat.le_of_lt_succ hn)) hz.1) (hs y1 I8 L8 hi)
  exact key _ x1 I L (Nat.lt_succ_self _) hv0
def zp_X0_prune_13b (K7 : Int32 → zz_I → zz_L → Prop) (K13 : Int32 → zz_I → zz_L → Prop) (P : zz_I → zz_L → Prop) (x1 : Int32) (x2 : Int32) (I : zz_I) (L : zz_L) : Prop := ((I 37 7) ≤ x2 → ∀ v59 : Int32, v59 = x1 + (-1 : Int32) → (K7 v59 I L)) ∧ (¬ (I 37 7) ≤ x2 → zp_X0_isOpen x1 x2 (fun r24 => (r24 = 0 → ∀ v53 : Int32, v53 = x2 + (1 : Int32) → (K13 v53 I L)) ∧ (¬ r24 = 0 → zp_X0_leadsOn x1 x2 (fun r33 => (¬ r33 = 0 → ∀ v53 : Int32, v53 = x2 + (1 : Int32) → (K13 v53 I L)) ∧ (r33 = 0 → vp_in x1 25 ∧ (vp_in x1 25 ∧ (∀ I52 : zz_I, I52 = zz_up I 38 x1.toNatClampNeg ((I 38 x1.toNatClampNeg) &&& (((1 : Int32) <<< (x2 &&& 31)) ^^^ (-1 : Int32))) → (∀ v53 : Int32, v53 = x2 + (1 : Int32) → (K13 v53 I52 L)))))) I L)) I L)
set_option maxHeartbeats 4000000 in
set_option maxRecDepth 100000 in
theorem zq_X0_prune_13b {p : Program} {l : Launch} {e : Env} {s : State} {m : MethodId} {args : Array Value} {below : List Frame} {meth : Method} {c : Code} {D : va_G} {ca : Nat → ClassId} {A : Nat → Prop} {a : Nat → Nat} {K7 : Int32 → zz_I → zz_L → Prop} {K13 : Int32 → zz_I → zz_L → Prop} {P : zz_I → zz_L → Prop} {I : zz_I} {L : zz_L} {x1 : Int32} {x2 : Int32} (X : zz_X p s m meth c cX0_prune RX0 none 3) (hA : ∀ q, s.heap.size ≤ q → A q)  (hK7 : ∀ (y1 : Int32) (I8 : zz_I) (L8 : zz_L), K7 y1 I8 L8 → zz_Go p l e ({ frames := 2, cells := 0, slots := 0, locals := 45 } : Room) s m args below meth c 0 0 (MQ below (zz_Qv D ca zz_dC A a P) args s 0 0 A) D ca zz_dC A 3 7 a [] [(0, .ref (a 37)), (1, .int y1)] I8 L8) (hK13 : ∀ (y2 : Int32) (I8 : zz_I) (L8 : zz_L), K13 y2 I8 L8 → zz_Go p l e ({ frames := 2, cells := 0, slots := 0, locals := 45 } : Room) s m args below meth c 0 0 (MQ below (zz_Qv D ca zz_dC A a P) args s 0 0 A) D ca zz_dC A 3 13 a [] [(0, .ref (a 37)), (1, .int x1), (2, .int y2)] I8 L8) (h : zp_X0_prune_13b K7 K13 P x1 x2 I L) : zz_Go p l e ({ frames := 2, cells := 0, slots := 0, locals := 45 } : Room) s m args below meth c 0 0 (MQ below (zz_Qv D ca zz_dC A a P) args s 0 0 A) D ca zz_dC A 3 13 a [] [(0, .ref (a 37)), (1, .int x1), (2, .int x2)] I L := by
  obtain ⟨hx, hb, hml, hown, zw, hr, hlocks⟩ := id X
  intro H locs ls hB hl
  unfold zp_X0_prune_13b at h
  refine lv_iload_n hx hb dX0_prune_13 rfl (lv_at hl 2 rfl) ?_
  refine lv_aload_n hx hb dX0_prune_14 rfl (lv_at hl 0 rfl) ?_
  refine zz_geti hx hb hown zw hB zF_X0_35 zdC_37 rfl dX0_prune_15 ?_
  refine lv_icmp_ge (tgt := 59) hx hb dX0_prune_18 (by decide) (fun c18 => ?_) (fun c18 => ?_)
  · have h := h.1 c18
    obtain ⟨v59, ev59⟩ : ∃ z : Int32, z = x1 + (-1 : Int32) := ⟨_, rfl⟩
    have h := h v59 ev59
    refine lv_iinc (v := v59) (lv' := [(1, .int v59), (0, .ref (a 37)), (2, .int x2)]) hx hb dX0_prune_59 hl (k := 1) rfl (by rw [ev59]; rfl) (by decide) rfl (fun ls hl => ?_)
    refine lv_goto (tgt := 7) hx hb dX0_prune_62 (by decide) ?_
    exact hK7 _ _ _ h H locs ls hB (lv_sub hl [1, 0] rfl)
  · have h := h.2 c18
    refine lv_aload_n hx hb dX0_prune_21 rfl (lv_at hl 0 rfl) ?_
    refine lv_iload_n hx hb dX0_prune_22 rfl (lv_at hl 1 rfl) ?_
    refine lv_iload_n hx hb dX0_prune_23 rfl (lv_at hl 2 rfl) ?_
    refine zz_goip hB hA (zz_runV (As := [.int x1, .int x2]) (rest := []) hx hb hml hown zw hB zM_X0_106 (zc_X0_isOpen l D ca a I L H.size h) zdC_37 rfl rfl hl.1 rfl (Nat.le_of_ble_eq_true rfl) rfl rfl ⟨Nat.le_of_ble_eq_true rfl, Nat.le_of_ble_eq_true rfl⟩ dX0_prune_24 ⟨Nat.le_of_ble_eq_true rfl, Nat.le_of_ble_eq_true rfl⟩) (fun r24 H locs h hB => ?_)
    refine lv_if_eq (tgt := 53) hx hb dX0_prune_27 (by decide) (fun c27 => ?_) (fun c27 => ?_)
    · have h := h.1 c27
      obtain ⟨v53, ev53⟩ : ∃ z : Int32, z = x2 + (1 : Int32) := ⟨_, rfl⟩
      have h := h v53 ev53
      refine lv_iinc (v := v53) (lv' := [(2, .int v53), (0, .ref (a 37)), (1, .int x1)]) hx hb dX0_prune_53 hl (k := 2) rfl (by rw [ev53]; rfl) (by decide) rfl (fun ls hl => ?_)
      refine lv_goto (tgt := 13) hx hb dX0_prune_56 (by decide) ?_
      exact hK13 _ _ _ h H locs ls hB (lv_sub hl [1, 2, 0] rfl)
    · have h := h.2 c27
      refine lv_aload_n hx hb dX0_prune_30 rfl (lv_at hl 0 rfl) ?_
      refine lv_iload_n hx hb dX0_prune_31 rfl (lv_at hl 1 rfl) ?_
      refine lv_iload_n hx hb dX0_prune_32 rfl (lv_at hl 2 rfl) ?_
      refine zz_goip hB hA (zz_runV (As := [.int x1, .int x2]) (rest := []) hx hb hml hown zw hB zM_X0_114 (zc_X0_leadsOn l D ca a I L H.size h) zdC_37 rfl rfl hl.1 rfl (Nat.le_of_ble_eq_true rfl) rfl rfl ⟨Nat.le_of_ble_eq_true rfl, Nat.le_of_ble_eq_true rfl⟩ dX0_prune_33 ⟨Nat.le_of_ble_eq_true rfl, Nat.le_of_ble_eq_true rfl⟩) (fun r33 H locs h hB => ?_)
      refine lv_if_ne (tgt := 53) hx hb dX0_prune_36 (by decide) (fun c36 => ?_) (fun c36 => ?_)
      · have h := h.1 c36
        obtain ⟨v53, ev53⟩ : ∃ z : Int32, z = x2 + (1 : Int32) := ⟨_, rfl⟩
        have h := h v53 ev53
        refine lv_iinc (v := v53) (lv' := [(2, .int v53), (0, .ref (a 37)), (1, .int x1)]) hx hb dX0_prune_53 hl (k := 2) rfl (by rw [ev53]; rfl) (by decide) rfl (fun ls hl => ?_)
        refine lv_goto (tgt := 13) hx hb dX0_prune_56 (by decide) ?_
        exact hK13 _ _ _ h H locs ls hB (lv_sub hl [1, 2, 0] rfl)
      · have h := h.2 c36
        refine lv_aload_n hx hb dX0_prune_39 rfl (lv_at hl 0 rfl) ?_
        refine zz_getr (k' := 38) hx hb hown zw hB zF_X0_9 zdC_37 rfl rfl dX0_prune_40 ?_
        refine lv_iload_n hx hb dX0_prune_43 rfl (lv_at hl 1 rfl) ?_
        refine lv_dup2_11 hx hb dX0_prune_44 rfl rfl ?_
        obtain ⟨hi45, h⟩ := h
        refine zz_iald hx hb hB zdC_38 hi45 dX0_prune_45 ?_
        refine lv_iconst (v := (1 : Int32)) hx hb dX0_prune_46 (by decide) ?_
        refine lv_iload_n hx hb dX0_prune_47 rfl (lv_at hl 2 rfl) ?_
        refine lv_ishl hx hb dX0_prune_48 ?_
        refine lv_iconst (v := (-1 : Int32)) hx hb dX0_prune_49 (by decide) ?_
        refine lv_ixor hx hb dX0_prune_50 ?_
        refine lv_iand hx hb dX0_prune_51 ?_
        obtain ⟨hi52, h⟩ := h
        refine zz_iast hx hb hB zdC_38 hi52 dX0_prune_52 (fun H locs hB => ?_)
        obtain ⟨I52, eI52⟩ : ∃ z : zz_I, z = zz_up I 38 x1.toNatClampNeg ((I 38 x1.toNatClampNeg) &&& (((1 : Int32) <<< (x2 &&& 31)) ^^^ (-1 : Int32))) := ⟨_, rfl⟩
        rw [← eI52] at hB
        have h := h I52 eI52
        obtain ⟨v53, ev53⟩ : ∃ z : Int32, z = x2 + (1 : Int32) := ⟨_, rfl⟩
        have h := h v53 ev53
        refine lv_iinc (v := v53) (lv' := [(2, .int v53), (0, .ref (a 37)), (1, .int x1)]) hx hb dX0_prune_53 hl (k := 2) rfl (by rw [ev53]; rfl) (by decide) rfl (fun ls hl => ?_)
        refine lv_goto (tgt := 13) hx hb dX0_prune_56 (by decide) ?_
        exact hK13 _ _ _ h H locs ls hB (lv_sub hl [1, 2, 0] rfl)
def zp_X0_prune_13 (K7 : Int32 → zz_I → zz_L → Prop) (P : zz_I → zz_L → Prop) (x1 : Int32) (x2 : Int32) (I : zz_I) (L : zz_L) : Prop := ∃ (Inv : Int32 → zz_I → zz_L → Prop) (μ : Int32 → zz_I → zz_L → Nat), Inv x2 I L ∧ ∀ (y2 : Int32) (I8 : zz_I) (L8 : zz_L), Inv y2 I8 L8 → zp_X0_prune_13b K7 (fun z2 I7 L7 => Inv z2 I7 L7 ∧ μ z2 I7 L7 < μ y2 I8 L8) P x1 y2 I8 L8
set_option maxHeartbeats 4000000 in
set_option maxRecDepth 100000 in
theorem zq_X0_prune_13 {p : Program} {l : Launch} {e : Env} {s : State} {m : MethodId} {args : Array Value} {below : List Frame} {meth : Method} {c : Code} {D : va_G} {ca : Nat → ClassId} {A : Nat → Prop} {a : Nat → Nat} {K7 : Int32 → zz_I → zz_L → Prop} {P : zz_I → zz_L → Prop} {I : zz_I} {L : zz_L} {x1 : Int32} {x2 : Int32} (X : zz_X p s m meth c cX0_prune RX0 none 3) (hA : ∀ q, s.heap.size ≤ q → A q)  (hK7 : ∀ (y1 : Int32) (I8 : zz_I) (L8 : zz_L), K7 y1 I8 L8 → zz_Go p l e ({ frames := 2, cells := 0, slots := 0, locals := 45 } : Room) s m args below meth c 0 0 (MQ below (zz_Qv D ca zz_dC A a P) args s 0 0 A) D ca zz_dC A 3 7 a [] [(0, .ref (a 37)), (1, .int y1)] I8 L8) (h : zp_X0_prune_13 K7 P x1 x2 I L) : zz_Go p l e ({ frames := 2, cells := 0, slots := 0, locals := 45 } : Room) s m args below meth c 0 0 (MQ below (zz_Qv D ca zz_dC A a P) args s 0 0 A) D ca zz_dC A 3 13 a [] [(0, .ref (a 37)), (1, .int x1), (2, .int x2)] I L := by
  unfold zp_X0_prune_13 at h
  obtain ⟨Inv, μ, hv0, hs⟩ := h
  have key : ∀ (n9 : Nat) (y2 : Int32) (I8 : zz_I) (L8 : zz_L), μ y2 I8 L8 < n9 → Inv y2 I8 L8 → zz_Go p l e ({ frames := 2, cells := 0, slots := 0, locals := 45 } : Room) s m args below meth c 0 0 (MQ below (zz_Qv D ca zz_dC A a P) args s 0 0 A) D ca zz_dC A 3 13 a [] [(0, .ref (a 37)), (1, .int x1), (2, .int y2)] I8 L8 := by
    intro n9
    induction n9 with
    | zero => intro y2 I8 L8 hn; exact absurd hn (Nat.not_lt_zero _)
    | succ n9 ih =>
      intro y2 I8 L8 hn hi
      exact zq_X0_prune_13b (K13 := (fun z2 I7 L7 => Inv z2 I7 L7 ∧ μ z2 I7 L7 < μ y2 I8 L8)) X hA  hK7 (fun z2 I7 L7 hz => ih z2 I7 L7 (Nat.lt_of_lt_of_le hz.2 (Nat.le_of_lt_succ hn)) hz.1) (hs y2 I8 L8 hi)
  exact key _ x2 I L (Nat.lt_succ_self _) hv0
def zp_X0_prune_7b (K7 : Int32 → zz_I → zz_L → Prop) (P : zz_I → zz_L → Prop) (x1 : Int32) (I : zz_I) (L : zz_L) : Prop := (x1 < 0 → ∀ I67 : zz_I, I67 = zz_up I 37 8 (0 : Int32) → (zp_J7_fill_53178 39 25 (0 : Int32) (fun I75 L75 => vp_in (0 : Int32) 25 ∧ (∀ I86 : zz_I, I86 = zz_up I75 39 (0 : Int32).toNatClampNeg (255 : Int32) → (zp_X0_prune_89 P (0 : Int32) I86 L75))) I67 L)) ∧ (¬ x1 < 0 → zp_X0_prune_13 K7 P x1 (0 : Int32) I L)
set_option maxHeartbeats 4000000 in
set_option maxRecDepth 100000 in
theorem zq_X0_prune_7b {p : Program} {l : Launch} {e : Env} {s : State} {m : MethodId} {args : Array Value} {below : List Frame} {meth : Method} {c : Code} {D : va_G} {ca : Nat → ClassId} {A : Nat → Prop} {a : Nat → Nat} {K7 : Int32 → zz_I → zz_L → Prop} {P : zz_I → zz_L → Prop} {I : zz_I} {L : zz_L} {x1 : Int32} (X : zz_X p s m meth c cX0_prune RX0 none 3) (hA : ∀ q, s.heap.size ≤ q → A q)  (hK7 : ∀ (y1 : Int32) (I8 : zz_I) (L8 : zz_L), K7 y1 I8 L8 → zz_Go p l e ({ frames := 2, cells := 0, slots := 0, locals := 45 } : Room) s m args below meth c 0 0 (MQ below (zz_Qv D ca zz_dC A a P) args s 0 0 A) D ca zz_dC A 3 7 a [] [(0, .ref (a 37)), (1, .int y1)] I8 L8) (h : zp_X0_prune_7b K7 P x1 I L) : zz_Go p l e ({ frames := 2, cells := 0, slots := 0, locals := 45 } : Room) s m args below meth c 0 0 (MQ below (zz_Qv D ca zz_dC A a P) args s 0 0 A) D ca zz_dC A 3 7 a [] [(0, .ref (a 37)), (1, .int x1)] I L := by
  obtain ⟨hx, hb, hml, hown, zw, hr, hlocks⟩ := id X
  intro H locs ls hB hl
  unfold zp_X0_prune_7b at h
  refine lv_iload_n hx hb dX0_prune_7 rfl (lv_at hl 1 rfl) ?_
  refine lv_if_lt (tgt := 65) hx hb dX0_prune_8 (by decide) (fun c8 => ?_) (fun c8 => ?_)
  · have h := h.1 c8
    refine lv_aload_n hx hb dX0_prune_65 rfl (lv_at hl 0 rfl) ?_
    refine lv_iconst (v := (0 : Int32)) hx hb dX0_prune_66 (by decide) ?_
    refine zz_puti hx hb hown zw hB zP_X0_38 zdC_37 rfl dX0_prune_67 (fun H locs hB => ?_)
    obtain ⟨I67, eI67⟩ : ∃ z : zz_I, z = zz_up I 37 8 (0 : Int32) := ⟨_, rfl⟩
    rw [← eI67] at hB
    have h := h I67 eI67
    refine lv_aload_n hx hb dX0_prune_70 rfl (lv_at hl 0 rfl) ?_
    refine zz_getr (k' := 39) hx hb hown zw hB zF_X0_15 zdC_37 rfl rfl dX0_prune_71 ?_
    refine lv_iconst (v := (0 : Int32)) hx hb dX0_prune_74 (by decide) ?_
    refine zz_gov hB hA (zz_runS (As := [.ref (a 39), .int (0 : Int32)]) (rest := []) hx hb hml hown zw hB zM_X0_75 (zc_J7_fill_53178 l D ca a I67 L H.size zdC_39 h) rfl hl.1 rfl (Nat.le_of_ble_eq_true rfl) rfl rfl ⟨Nat.le_of_ble_eq_true rfl, Nat.le_of_ble_eq_true rfl⟩ dX0_prune_75 ⟨Nat.le_of_ble_eq_true rfl, Nat.le_of_ble_eq_true rfl⟩) (fun I75 L75 H locs h hB => ?_)
    refine lv_aload_n hx hb dX0_prune_78 rfl (lv_at hl 0 rfl) ?_
    refine zz_getr (k' := 39) hx hb hown zw hB zF_X0_15 zdC_37 rfl rfl dX0_prune_79 ?_
    refine lv_iconst (v := (0 : Int32)) hx hb dX0_prune_82 (by decide) ?_
    refine lv_sipush (v := (255 : Int32)) hx hb dX0_prune_83 (by decide) ?_
    obtain ⟨hi86, h⟩ := h
    refine zz_iast hx hb hB zdC_39 hi86 dX0_prune_86 (fun H locs hB => ?_)
    obtain ⟨I86, eI86⟩ : ∃ z : zz_I, z = zz_up I75 39 (0 : Int32).toNatClampNeg (255 : Int32) := ⟨_, rfl⟩
    rw [← eI86] at hB
    have h := h I86 eI86
    refine lv_iconst (v := (0 : Int32)) hx hb dX0_prune_87 (by decide) ?_
    refine lv_istore_n (lv' := [(1, .int (0 : Int32)), (0, .ref (a 37))]) hx hb dX0_prune_88 rfl hl (by decide) rfl (fun ls hl => ?_)
    exact zq_X0_prune_89 X hA  h H locs ls hB (lv_sub hl [1, 0] rfl)
  · have h := h.2 c8
    refine lv_iconst (v := (0 : Int32)) hx hb dX0_prune_11 (by decide) ?_
    refine lv_istore_n (lv' := [(2, .int (0 : Int32)), (0, .ref (a 37)), (1, .int x1)]) hx hb dX0_prune_12 rfl hl (by decide) rfl (fun ls hl => ?_)
    exact zq_X0_prune_13 X hA hK7 h H locs ls hB (lv_sub hl [1, 2, 0] rfl)
def zp_X0_prune_7  (P : zz_I → zz_L → Prop) (x1 : Int32) (I : zz_I) (L : zz_L) : Prop := ∃ (Inv : Int32 → zz_I → zz_L → Prop) (μ : Int32 → zz_I → zz_L → Nat), Inv x1 I L ∧ ∀ (y1 : Int32) (I8 : zz_I) (L8 : zz_L), Inv y1 I8 L8 → zp_X0_prune_7b  (fun z1 I7 L7 => Inv z1 I7 L7 ∧ μ z1 I7 L7 < μ y1 I8 L8) P y1 I8 L8
set_option maxHeartbeats 4000000 in
set_option maxRecDepth 100000 in
theorem zq_X0_prune_7 {p : Program} {l : Launch} {e : Env} {s : State} {m : MethodId} {args : Array Value} {below : List Frame} {meth : Method} {c : Code} {D : va_G} {ca : Nat → ClassId} {A : Nat → Prop} {a : Nat → Nat}  {P : zz_I → zz_L → Prop} {I : zz_I} {L : zz_L} {x1 : Int32} (X : zz_X p s m meth c cX0_prune RX0 none 3) (hA : ∀ q, s.heap.size ≤ q → A q)   (h : zp_X0_prune_7  P x1 I L) : zz_Go p l e ({ frames := 2, cells := 0, slots := 0, locals := 45 } : Room) s m args below meth c 0 0 (MQ below (zz_Qv D ca zz_dC A a P) args s 0 0 A) D ca zz_dC A 3 7 a [] [(0, .ref (a 37)), (1, .int x1)] I L := by
  unfold zp_X0_prune_7 at h
  obtain ⟨Inv, μ, hv0, hs⟩ := h
  have key : ∀ (n9 : Nat) (y1 : Int32) (I8 : zz_I) (L8 : zz_L), μ y1 I8 L8 < n9 → Inv y1 I8 L8 → zz_Go p l e ({ frames := 2, cells := 0, slots := 0, locals := 45 } : Room) s m args below meth c 0 0 (MQ below (zz_Qv D ca zz_dC A a P) args s 0 0 A) D ca zz_dC A 3 7 a [] [(0, .ref (a 37)), (1, .int y1)] I8 L8 := by
    intro n9
    induction n9 with
    | zero => intro y1 I8 L8 hn; exact absurd hn (Nat.not_lt_zero _)
    | succ n9 ih =>
      intro y1 I8 L8 hn hi
      exact zq_X0_prune_7b (K7 := (fun z1 I7 L7 => Inv z1 I7 L7 ∧ μ z1 I7 L7 < μ y1 I8 L8)) X hA   (fun z1 I7 L7 hz => ih z1 I7 L7 (Nat.lt_of_lt_of_le hz.2 (Nat.le_of_lt_succ hn)) hz.1) (hs y1 I8 L8 hi)
  exact key _ x1 I L (Nat.lt_succ_self _) hv0
def zp_X0_prune  (P : zz_I → zz_L → Prop) (I : zz_I) (L : zz_L) : Prop := ∀ v6 : Int32, v6 = (I 37 6) - (1 : Int32) → (zp_X0_prune_7 P v6 I L)
set_option maxHeartbeats 4000000 in
set_option maxRecDepth 100000 in
theorem zq_X0_prune {p : Program} {l : Launch} {e : Env} {s : State} {m : MethodId} {args : Array Value} {below : List Frame} {meth : Method} {c : Code} {D : va_G} {ca : Nat → ClassId} {A : Nat → Prop} {a : Nat → Nat}  {P : zz_I → zz_L → Prop} {I : zz_I} {L : zz_L}  (X : zz_X p s m meth c cX0_prune RX0 none 3) (hA : ∀ q, s.heap.size ≤ q → A q)   (h : zp_X0_prune  P I L) : zz_Go p l e ({ frames := 2, cells := 0, slots := 0, locals := 45 } : Room) s m args below meth c 0 0 (MQ below (zz_Qv D ca zz_dC A a P) args s 0 0 A) D ca zz_dC A 3 0 a [] [(0, .ref (a 37))] I L := by
  obtain ⟨hx, hb, hml, hown, zw, hr, hlocks⟩ := id X
  intro H locs ls hB hl
  unfold zp_X0_prune at h
  refine lv_aload_n hx hb dX0_prune_0 rfl (lv_at hl 0 rfl) ?_
  refine zz_geti hx hb hown zw hB zF_X0_31 zdC_37 rfl dX0_prune_1 ?_
  refine lv_iconst (v := (1 : Int32)) hx hb dX0_prune_4 (by decide) ?_
  refine lv_isub hx hb dX0_prune_5 ?_
  refine lv_topi (fun v6 ev6 => ?_)
  have h := h v6 ev6
  refine lv_istore_n (lv' := [(1, .int v6), (0, .ref (a 37))]) hx hb dX0_prune_6 rfl hl (by decide) rfl (fun ls hl => ?_)
  exact zq_X0_prune_7 X hA  h H locs ls hB (lv_sub hl [1, 0] rfl)
theorem zc_X0_prune (l : Launch) (D : va_G) (ca : Nat → ClassId) (a : Nat → Nat) (I : zz_I) (L : zz_L) (sz : Nat)  {P : zz_I → zz_L → Prop}  (h : zp_X0_prune  P I L) : Met l yX0_prune [.code yX0_prune cX0_prune 3 none] ({ frames := 2, cells := 0, slots := 0, locals := 45 } : Room) (zz_Pre D ca zz_dC [.ref (a 37)] a I L sz) (zz_Qv D ca zz_dC (zz_A ca zz_dC a I L sz) a P) 0 0 (zz_A ca zz_dC a I L sz) :=
  zz_start (by decide) (Nat.le_of_ble_eq_true rfl) (fun p e s m below meth c X hsz hA => zq_X0_prune X hA  h)
def zp_X0_sumTails_15b (K15 : Int64 → Int32 → Prop) (P : Int64 → Prop) (x1 : Int32) (x3 : Int32) (x4 : Int64) (x6 : Int32) (I : zz_I) (L : zz_L) : Prop := ((I 37 7) ≤ x6 → P x4) ∧ (¬ (I 37 7) ≤ x6 → ((x3 >>> (x6 &&& 31)) = 0 → P x4) ∧ (¬ (x3 >>> (x6 &&& 31)) = 0 → (((x3 >>> (x6 &&& 31)) &&& (1 : Int32)) = 0 → ∀ v57 : Int32, v57 = x6 + (1 : Int32) → (K15 x4 v57)) ∧ (¬ ((x3 >>> (x6 &&& 31)) &&& (1 : Int32)) = 0 → vp_in ((x1 * (8 : Int32)) + x6) 200 ∧ (∀ v55 : Int64, v55 = x4 + (L 43 ((x1 * (8 : Int32)) + x6).toNatClampNeg) → (∀ v57 : Int32, v57 = x6 + (1 : Int32) → (K15 v55 v57))))))
set_option maxHeartbeats 4000000 in
set_option maxRecDepth 100000 in
theorem zq_X0_sumTails_15b {p : Program} {l : Launch} {e : Env} {s : State} {m : MethodId} {args : Array Value} {below : List Frame} {meth : Method} {c : Code} {D : va_G} {ca : Nat → ClassId} {A : Nat → Prop} {a : Nat → Nat} {K15 : Int64 → Int32 → Prop} {P : Int64 → Prop} {I : zz_I} {L : zz_L} {x1 : Int32} {x3 : Int32} {x4 : Int64} {x6 : Int32} (X : zz_X p s m meth c cX0_sumTails RX0 (some .long) 7) (hA : ∀ q, s.heap.size ≤ q → A q)  (hK15 : ∀ (y4 : Int64) (y6 : Int32), K15 y4 y6 → zz_Go p l e ({ frames := 0, cells := 0, slots := 0, locals := 0 } : Room) s m args below meth c 0 0 (MQ below (zz_Ql D ca zz_dC A a (fun r I9 L9 => P r ∧ I9 = I ∧ L9 = L)) args s 0 0 A) D ca zz_dC A 7 15 a [] [(0, .ref (a 37)), (1, .int x1), (3, .int x3), (4, .long y4), (6, .int y6)] I L) (h : zp_X0_sumTails_15b K15 P x1 x3 x4 x6 I L) : zz_Go p l e ({ frames := 0, cells := 0, slots := 0, locals := 0 } : Room) s m args below meth c 0 0 (MQ below (zz_Ql D ca zz_dC A a (fun r I9 L9 => P r ∧ I9 = I ∧ L9 = L)) args s 0 0 A) D ca zz_dC A 7 15 a [] [(0, .ref (a 37)), (1, .int x1), (3, .int x3), (4, .long x4), (6, .int x6)] I L := by
  obtain ⟨hx, hb, hml, hown, zw, hr, hlocks⟩ := id X
  intro H locs ls hB hl
  unfold zp_X0_sumTails_15b at h
  refine lv_iload hx hb dX0_sumTails_15 (lv_at hl 4 rfl) ?_
  refine lv_aload_n hx hb dX0_sumTails_17 rfl (lv_at hl 0 rfl) ?_
  refine zz_geti hx hb hown zw hB zF_X0_35 zdC_37 rfl dX0_sumTails_18 ?_
  refine lv_icmp_ge (tgt := 63) hx hb dX0_sumTails_21 (by decide) (fun c21 => ?_) (fun c21 => ?_)
  · have h := h.1 c21
    refine lv_lload hx hb dX0_sumTails_63 (lv_at hl 3 rfl) ?_
    exact zz_lret hx hb hr hlocks hB ⟨h, rfl, rfl⟩ dX0_sumTails_65
  · have h := h.2 c21
    refine lv_iload_n hx hb dX0_sumTails_24 rfl (lv_at hl 2 rfl) ?_
    refine lv_iload hx hb dX0_sumTails_25 (lv_at hl 4 rfl) ?_
    refine lv_ishr hx hb dX0_sumTails_27 ?_
    refine lv_if_eq (tgt := 63) hx hb dX0_sumTails_28 (by decide) (fun c28 => ?_) (fun c28 => ?_)
    · have h := h.1 c28
      refine lv_lload hx hb dX0_sumTails_63 (lv_at hl 3 rfl) ?_
      exact zz_lret hx hb hr hlocks hB ⟨h, rfl, rfl⟩ dX0_sumTails_65
    · have h := h.2 c28
      refine lv_iload_n hx hb dX0_sumTails_31 rfl (lv_at hl 2 rfl) ?_
      refine lv_iload hx hb dX0_sumTails_32 (lv_at hl 4 rfl) ?_
      refine lv_ishr hx hb dX0_sumTails_34 ?_
      refine lv_iconst (v := (1 : Int32)) hx hb dX0_sumTails_35 (by decide) ?_
      refine lv_iand hx hb dX0_sumTails_36 ?_
      refine lv_if_eq (tgt := 57) hx hb dX0_sumTails_37 (by decide) (fun c37 => ?_) (fun c37 => ?_)
      · have h := h.1 c37
        obtain ⟨v57, ev57⟩ : ∃ z : Int32, z = x6 + (1 : Int32) := ⟨_, rfl⟩
        have h := h v57 ev57
        refine lv_iinc (v := v57) (lv' := [(6, .int v57), (0, .ref (a 37)), (1, .int x1), (3, .int x3), (4, .long x4)]) hx hb dX0_sumTails_57 hl (k := 4) rfl (by rw [ev57]; rfl) (by decide) rfl (fun ls hl => ?_)
        refine lv_goto (tgt := 15) hx hb dX0_sumTails_60 (by decide) ?_
        exact hK15 _ _ h H locs ls hB (lv_sub hl [1, 2, 3, 4, 0] rfl)
      · have h := h.2 c37
        refine lv_lload hx hb dX0_sumTails_40 (lv_at hl 3 rfl) ?_
        refine lv_aload_n hx hb dX0_sumTails_42 rfl (lv_at hl 0 rfl) ?_
        refine zz_getr (k' := 43) hx hb hown zw hB zF_X0_28 zdC_37 rfl rfl dX0_sumTails_43 ?_
        refine lv_iload_n hx hb dX0_sumTails_46 rfl (lv_at hl 1 rfl) ?_
        refine lv_bipush (v := (8 : Int32)) hx hb dX0_sumTails_47 (by decide) ?_
        refine lv_imul hx hb dX0_sumTails_49 ?_
        refine lv_iload hx hb dX0_sumTails_50 (lv_at hl 4 rfl) ?_
        refine lv_iadd hx hb dX0_sumTails_52 ?_
        obtain ⟨hi53, h⟩ := h
        refine zz_lald hx hb hB zdC_43 hi53 dX0_sumTails_53 ?_
        refine lv_ladd hx hb dX0_sumTails_54 ?_
        refine lv_topl (fun v55 ev55 => ?_)
        have h := h v55 ev55
        refine lv_lstore (lv' := [(4, .long v55), (0, .ref (a 37)), (1, .int x1), (3, .int x3), (6, .int x6)]) hx hb dX0_sumTails_55 hl (by decide) rfl (fun ls hl => ?_)
        obtain ⟨v57, ev57⟩ : ∃ z : Int32, z = x6 + (1 : Int32) := ⟨_, rfl⟩
        have h := h v57 ev57
        refine lv_iinc (v := v57) (lv' := [(6, .int v57), (4, .long v55), (0, .ref (a 37)), (1, .int x1), (3, .int x3)]) hx hb dX0_sumTails_57 hl (k := 4) rfl (by rw [ev57]; rfl) (by decide) rfl (fun ls hl => ?_)
        refine lv_goto (tgt := 15) hx hb dX0_sumTails_60 (by decide) ?_
        exact hK15 _ _ h H locs ls hB (lv_sub hl [2, 3, 4, 1, 0] rfl)
def zp_X0_sumTails_15  (P : Int64 → Prop) (x1 : Int32) (x3 : Int32) (x4 : Int64) (x6 : Int32) (I : zz_I) (L : zz_L) : Prop := ∃ (Inv : Int64 → Int32 → Prop) (μ : Int64 → Int32 → Nat), Inv x4 x6 ∧ ∀ (y4 : Int64) (y6 : Int32), Inv y4 y6 → zp_X0_sumTails_15b  (fun z4 z6 => Inv z4 z6 ∧ μ z4 z6 < μ y4 y6) P x1 x3 y4 y6 I L
set_option maxHeartbeats 4000000 in
set_option maxRecDepth 100000 in
theorem zq_X0_sumTails_15 {p : Program} {l : Launch} {e : Env} {s : State} {m : MethodId} {args : Array Value} {below : List Frame} {meth : Method} {c : Code} {D : va_G} {ca : Nat → ClassId} {A : Nat → Prop} {a : Nat → Nat}  {P : Int64 → Prop} {I : zz_I} {L : zz_L} {x1 : Int32} {x3 : Int32} {x4 : Int64} {x6 : Int32} (X : zz_X p s m meth c cX0_sumTails RX0 (some .long) 7) (hA : ∀ q, s.heap.size ≤ q → A q)   (h : zp_X0_sumTails_15  P x1 x3 x4 x6 I L) : zz_Go p l e ({ frames := 0, cells := 0, slots := 0, locals := 0 } : Room) s m args below meth c 0 0 (MQ below (zz_Ql D ca zz_dC A a (fun r I9 L9 => P r ∧ I9 = I ∧ L9 = L)) args s 0 0 A) D ca zz_dC A 7 15 a [] [(0, .ref (a 37)), (1, .int x1), (3, .int x3), (4, .long x4), (6, .int x6)] I L := by
  unfold zp_X0_sumTails_15 at h
  obtain ⟨Inv, μ, hv0, hs⟩ := h
  have key : ∀ (n9 : Nat) (y4 : Int64) (y6 : Int32), μ y4 y6 < n9 → Inv y4 y6 → zz_Go p l e ({ frames := 0, cells := 0, slots := 0, locals := 0 } : Room) s m args below meth c 0 0 (MQ below (zz_Ql D ca zz_dC A a (fun r I9 L9 => P r ∧ I9 = I ∧ L9 = L)) args s 0 0 A) D ca zz_dC A 7 15 a [] [(0, .ref (a 37)), (1, .int x1), (3, .int x3), (4, .long y4), (6, .int y6)] I L := by
    intro n9
    induction n9 with
    | zero => intro y4 y6 hn; exact absurd hn (Nat.not_lt_zero _)
    | succ n9 ih =>
      intro y4 y6 hn hi
      exact zq_X0_sumTails_15b (K15 := (fun z4 z6 => Inv z4 z6 ∧ μ z4 z6 < μ y4 y6)) X hA   (fun z4 z6 hz => ih z4 z6 (Nat.lt_of_lt_of_le hz.2 (Nat.le_of_lt_succ hn)) hz.1) (hs y4 y6 hi)
  exact key _ x4 x6 (Nat.lt_succ_self _) hv0
def zp_X0_sumTails (x1 : Int32) (x2 : Int32) (P : Int64 → Prop) (I : zz_I) (L : zz_L) : Prop := vp_in x1 25 ∧ (∀ v8 : Int32, v8 = (I 38 x1.toNatClampNeg) &&& x2 → (zp_X0_sumTails_15 P x1 v8 (0 : Int64) (0 : Int32) I L))
set_option maxHeartbeats 4000000 in
set_option maxRecDepth 100000 in
theorem zq_X0_sumTails {p : Program} {l : Launch} {e : Env} {s : State} {m : MethodId} {args : Array Value} {below : List Frame} {meth : Method} {c : Code} {D : va_G} {ca : Nat → ClassId} {A : Nat → Prop} {a : Nat → Nat}  {P : Int64 → Prop} {I : zz_I} {L : zz_L} {x1 : Int32} {x2 : Int32} (X : zz_X p s m meth c cX0_sumTails RX0 (some .long) 7) (hA : ∀ q, s.heap.size ≤ q → A q)   (h : zp_X0_sumTails x1 x2 P I L) : zz_Go p l e ({ frames := 0, cells := 0, slots := 0, locals := 0 } : Room) s m args below meth c 0 0 (MQ below (zz_Ql D ca zz_dC A a (fun r I9 L9 => P r ∧ I9 = I ∧ L9 = L)) args s 0 0 A) D ca zz_dC A 7 0 a [] [(0, .ref (a 37)), (1, .int x1), (2, .int x2)] I L := by
  obtain ⟨hx, hb, hml, hown, zw, hr, hlocks⟩ := id X
  intro H locs ls hB hl
  unfold zp_X0_sumTails at h
  refine lv_aload_n hx hb dX0_sumTails_0 rfl (lv_at hl 0 rfl) ?_
  refine zz_getr (k' := 38) hx hb hown zw hB zF_X0_9 zdC_37 rfl rfl dX0_sumTails_1 ?_
  refine lv_iload_n hx hb dX0_sumTails_4 rfl (lv_at hl 1 rfl) ?_
  obtain ⟨hi5, h⟩ := h
  refine zz_iald hx hb hB zdC_38 hi5 dX0_sumTails_5 ?_
  refine lv_iload_n hx hb dX0_sumTails_6 rfl (lv_at hl 2 rfl) ?_
  refine lv_iand hx hb dX0_sumTails_7 ?_
  refine lv_topi (fun v8 ev8 => ?_)
  have h := h v8 ev8
  refine lv_istore_n (lv' := [(3, .int v8), (0, .ref (a 37)), (1, .int x1), (2, .int x2)]) hx hb dX0_sumTails_8 rfl hl (by decide) rfl (fun ls hl => ?_)
  refine lv_lconst (v := (0 : Int64)) hx hb dX0_sumTails_9 (by decide) ?_
  refine lv_lstore (lv' := [(4, .long (0 : Int64)), (3, .int v8), (0, .ref (a 37)), (1, .int x1), (2, .int x2)]) hx hb dX0_sumTails_10 hl (by decide) rfl (fun ls hl => ?_)
  refine lv_iconst (v := (0 : Int32)) hx hb dX0_sumTails_12 (by decide) ?_
  refine lv_istore (lv' := [(6, .int (0 : Int32)), (4, .long (0 : Int64)), (3, .int v8), (0, .ref (a 37)), (1, .int x1), (2, .int x2)]) hx hb dX0_sumTails_13 hl (by decide) rfl (fun ls hl => ?_)
  exact zq_X0_sumTails_15 X hA  h H locs ls hB (lv_sub hl [3, 4, 2, 1, 0] rfl)
theorem zc_X0_sumTails (l : Launch) (D : va_G) (ca : Nat → ClassId) (a : Nat → Nat) (I : zz_I) (L : zz_L) (sz : Nat) {x1 : Int32} {x2 : Int32} {P : Int64 → Prop}  (h : zp_X0_sumTails x1 x2 P I L) : Met l yX0_sumTails [.code yX0_sumTails cX0_sumTails 7 (some .long)] ({ frames := 0, cells := 0, slots := 0, locals := 0 } : Room) (zz_Pre D ca zz_dC [.ref (a 37), .int x1, .int x2] a I L sz) (zz_Ql D ca zz_dC (zz_A ca zz_dC a I L sz) a (fun r I9 L9 => P r ∧ I9 = I ∧ L9 = L)) 0 0 (zz_A ca zz_dC a I L sz) :=
  zz_start (by decide) (Nat.le_of_ble_eq_true rfl) (fun p e s m below meth c X hsz hA => zq_X0_sumTails X hA  h)
def zp_X0_countFrom_23b (K7 : Int32 → zz_I → zz_L → Prop) (K23 : Int32 → zz_I → zz_L → Prop) (P : Int64 → zz_I → zz_L → Prop) (x1 : Int32) (x2 : Int32) (x3 : Int32) (x4 : Int32) (I : zz_I) (L : zz_L) : Prop := ((I 37 7) ≤ x4 → ∀ v103 : Int32, v103 = x2 + (-1 : Int32) → (K7 v103 I L)) ∧ (¬ (I 37 7) ≤ x4 → ((x3 >>> (x4 &&& 31)) = 0 → ∀ v103 : Int32, v103 = x2 + (-1 : Int32) → (K7 v103 I L)) ∧ (¬ (x3 >>> (x4 &&& 31)) = 0 → (((x3 >>> (x4 &&& 31)) &&& (1 : Int32)) = 0 → ∀ v97 : Int32, v97 = x4 + (1 : Int32) → (K23 v97 I L)) ∧ (¬ ((x3 >>> (x4 &&& 31)) &&& (1 : Int32)) = 0 → zp_X0_nextUnit x2 x4 (fun r52 => (r52 ≤ (I 37 6) → vp_in x4 8 ∧ (zp_X0_sumTails r52 ((I 40 x4.toNatClampNeg) &&& x1) (fun r93 => vp_in ((x2 * (8 : Int32)) + x4) 200 ∧ (∀ L96 : zz_L, L96 = zz_up L 43 ((x2 * (8 : Int32)) + x4).toNatClampNeg r93 → (∀ v97 : Int32, v97 = x4 + (1 : Int32) → (K23 v97 I L96)))) I L)) ∧ (¬ r52 ≤ (I 37 6) → vp_in ((x2 * (8 : Int32)) + x4) 200 ∧ (∀ L96 : zz_L, L96 = zz_up L 43 ((x2 * (8 : Int32)) + x4).toNatClampNeg (1 : Int64) → (∀ v97 : Int32, v97 = x4 + (1 : Int32) → (K23 v97 I L96))))) I L)))
set_option maxHeartbeats 4000000 in
set_option maxRecDepth 100000 in
theorem zq_X0_countFrom_23b {p : Program} {l : Launch} {e : Env} {s : State} {m : MethodId} {args : Array Value} {below : List Frame} {meth : Method} {c : Code} {D : va_G} {ca : Nat → ClassId} {A : Nat → Prop} {a : Nat → Nat} {K7 : Int32 → zz_I → zz_L → Prop} {K23 : Int32 → zz_I → zz_L → Prop} {P : Int64 → zz_I → zz_L → Prop} {I : zz_I} {L : zz_L} {x1 : Int32} {x2 : Int32} {x3 : Int32} {x4 : Int32} (X : zz_X p s m meth c cX0_countFrom RX0 (some .long) 6) (hA : ∀ q, s.heap.size ≤ q → A q)  (hK7 : ∀ (y2 : Int32) (I8 : zz_I) (L8 : zz_L), K7 y2 I8 L8 → zz_Go p l e ({ frames := 1, cells := 0, slots := 0, locals := 26 } : Room) s m args below meth c 0 0 (MQ below (zz_Ql D ca zz_dC A a P) args s 0 0 A) D ca zz_dC A 6 7 a [] [(0, .ref (a 37)), (1, .int x1), (2, .int y2)] I8 L8) (hK23 : ∀ (y4 : Int32) (I8 : zz_I) (L8 : zz_L), K23 y4 I8 L8 → zz_Go p l e ({ frames := 1, cells := 0, slots := 0, locals := 26 } : Room) s m args below meth c 0 0 (MQ below (zz_Ql D ca zz_dC A a P) args s 0 0 A) D ca zz_dC A 6 23 a [] [(0, .ref (a 37)), (1, .int x1), (2, .int x2), (3, .int x3), (4, .int y4)] I8 L8) (h : zp_X0_countFrom_23b K7 K23 P x1 x2 x3 x4 I L) : zz_Go p l e ({ frames := 1, cells := 0, slots := 0, locals := 26 } : Room) s m args below meth c 0 0 (MQ below (zz_Ql D ca zz_dC A a P) args s 0 0 A) D ca zz_dC A 6 23 a [] [(0, .ref (a 37)), (1, .int x1), (2, .int x2), (3, .int x3), (4, .int x4)] I L := by
  obtain ⟨hx, hb, hml, hown, zw, hr, hlocks⟩ := id X
  intro H locs ls hB hl
  unfold zp_X0_countFrom_23b at h
  refine lv_iload hx hb dX0_countFrom_23 (lv_at hl 4 rfl) ?_
  refine lv_aload_n hx hb dX0_countFrom_25 rfl (lv_at hl 0 rfl) ?_
  refine zz_geti hx hb hown zw hB zF_X0_35 zdC_37 rfl dX0_countFrom_26 ?_
  refine lv_icmp_ge (tgt := 103) hx hb dX0_countFrom_29 (by decide) (fun c29 => ?_) (fun c29 => ?_)
  · have h := h.1 c29
    obtain ⟨v103, ev103⟩ : ∃ z : Int32, z = x2 + (-1 : Int32) := ⟨_, rfl⟩
    have h := h v103 ev103
    refine lv_iinc (v := v103) (lv' := [(2, .int v103), (0, .ref (a 37)), (1, .int x1), (3, .int x3), (4, .int x4)]) hx hb dX0_countFrom_103 hl (k := 2) rfl (by rw [ev103]; rfl) (by decide) rfl (fun ls hl => ?_)
    refine lv_goto (tgt := 7) hx hb dX0_countFrom_106 (by decide) ?_
    exact hK7 _ _ _ h H locs ls hB (lv_sub hl [1, 2, 0] rfl)
  · have h := h.2 c29
    refine lv_iload_n hx hb dX0_countFrom_32 rfl (lv_at hl 3 rfl) ?_
    refine lv_iload hx hb dX0_countFrom_33 (lv_at hl 4 rfl) ?_
    refine lv_ishr hx hb dX0_countFrom_35 ?_
    refine lv_if_eq (tgt := 103) hx hb dX0_countFrom_36 (by decide) (fun c36 => ?_) (fun c36 => ?_)
    · have h := h.1 c36
      obtain ⟨v103, ev103⟩ : ∃ z : Int32, z = x2 + (-1 : Int32) := ⟨_, rfl⟩
      have h := h v103 ev103
      refine lv_iinc (v := v103) (lv' := [(2, .int v103), (0, .ref (a 37)), (1, .int x1), (3, .int x3), (4, .int x4)]) hx hb dX0_countFrom_103 hl (k := 2) rfl (by rw [ev103]; rfl) (by decide) rfl (fun ls hl => ?_)
      refine lv_goto (tgt := 7) hx hb dX0_countFrom_106 (by decide) ?_
      exact hK7 _ _ _ h H locs ls hB (lv_sub hl [1, 2, 0] rfl)
    · have h := h.2 c36
      refine lv_iload_n hx hb dX0_countFrom_39 rfl (lv_at hl 3 rfl) ?_
      refine lv_iload hx hb dX0_countFrom_40 (lv_at hl 4 rfl) ?_
      refine lv_ishr hx hb dX0_countFrom_42 ?_
      refine lv_iconst (v := (1 : Int32)) hx hb dX0_countFrom_43 (by decide) ?_
      refine lv_iand hx hb dX0_countFrom_44 ?_
      refine lv_if_eq (tgt := 97) hx hb dX0_countFrom_45 (by decide) (fun c45 => ?_) (fun c45 => ?_)
      · have h := h.1 c45
        obtain ⟨v97, ev97⟩ : ∃ z : Int32, z = x4 + (1 : Int32) := ⟨_, rfl⟩
        have h := h v97 ev97
        refine lv_iinc (v := v97) (lv' := [(4, .int v97), (0, .ref (a 37)), (1, .int x1), (2, .int x2), (3, .int x3)]) hx hb dX0_countFrom_97 hl (k := 4) rfl (by rw [ev97]; rfl) (by decide) rfl (fun ls hl => ?_)
        refine lv_goto (tgt := 23) hx hb dX0_countFrom_100 (by decide) ?_
        exact hK23 _ _ _ h H locs ls hB (lv_sub hl [1, 2, 3, 4, 0] rfl)
      · have h := h.2 c45
        refine lv_aload_n hx hb dX0_countFrom_48 rfl (lv_at hl 0 rfl) ?_
        refine lv_iload_n hx hb dX0_countFrom_49 rfl (lv_at hl 2 rfl) ?_
        refine lv_iload hx hb dX0_countFrom_50 (lv_at hl 4 rfl) ?_
        refine zz_goip hB hA (zz_runV (As := [.int x2, .int x4]) (rest := []) hx hb hml hown zw hB zM_X0_110 (zc_X0_nextUnit l D ca a I L H.size h) zdC_37 rfl rfl hl.1 rfl (Nat.le_of_ble_eq_true rfl) rfl rfl ⟨Nat.le_of_ble_eq_true rfl, Nat.le_of_ble_eq_true rfl⟩ dX0_countFrom_52 ⟨Nat.le_of_ble_eq_true rfl, Nat.le_of_ble_eq_true rfl⟩) (fun r52 H locs h hB => ?_)
        refine lv_istore (lv' := [(5, .int r52), (0, .ref (a 37)), (1, .int x1), (2, .int x2), (3, .int x3), (4, .int x4)]) hx hb dX0_countFrom_55 hl (by decide) rfl (fun ls hl => ?_)
        refine lv_aload_n hx hb dX0_countFrom_57 rfl (lv_at hl 1 rfl) ?_
        refine zz_getr (k' := 43) hx hb hown zw hB zF_X0_28 zdC_37 rfl rfl dX0_countFrom_58 ?_
        refine lv_iload_n hx hb dX0_countFrom_61 rfl (lv_at hl 3 rfl) ?_
        refine lv_bipush (v := (8 : Int32)) hx hb dX0_countFrom_62 (by decide) ?_
        refine lv_imul hx hb dX0_countFrom_64 ?_
        refine lv_iload hx hb dX0_countFrom_65 (lv_at hl 5 rfl) ?_
        refine lv_iadd hx hb dX0_countFrom_67 ?_
        refine lv_iload hx hb dX0_countFrom_68 (lv_at hl 0 rfl) ?_
        refine lv_aload_n hx hb dX0_countFrom_70 rfl (lv_at hl 1 rfl) ?_
        refine zz_geti hx hb hown zw hB zF_X0_31 zdC_37 rfl dX0_countFrom_71 ?_
        refine lv_icmp_le (tgt := 81) hx hb dX0_countFrom_74 (by decide) (fun c74 => ?_) (fun c74 => ?_)
        · have h := h.1 c74
          refine lv_aload_n hx hb dX0_countFrom_81 rfl (lv_at hl 1 rfl) ?_
          refine lv_iload hx hb dX0_countFrom_82 (lv_at hl 0 rfl) ?_
          refine lv_aload_n hx hb dX0_countFrom_84 rfl (lv_at hl 1 rfl) ?_
          refine zz_getr (k' := 40) hx hb hown zw hB zF_X0_18 zdC_37 rfl rfl dX0_countFrom_85 ?_
          refine lv_iload hx hb dX0_countFrom_88 (lv_at hl 5 rfl) ?_
          obtain ⟨hi90, h⟩ := h
          refine zz_iald hx hb hB zdC_40 hi90 dX0_countFrom_90 ?_
          refine lv_iload_n hx hb dX0_countFrom_91 rfl (lv_at hl 2 rfl) ?_
          refine lv_iand hx hb dX0_countFrom_92 ?_
          refine zz_golp hB hA (zz_runV (As := [.int r52, .int ((I 40 x4.toNatClampNeg) &&& x1)]) (rest := [.int ((x2 * (8 : Int32)) + x4), .ref (a 43)]) hx hb hml hown zw hB zM_X0_117 (zc_X0_sumTails l D ca a I L H.size h) zdC_37 rfl rfl hl.1 rfl (Nat.le_of_ble_eq_true rfl) rfl rfl ⟨Nat.le_of_ble_eq_true rfl, Nat.le_of_ble_eq_true rfl⟩ dX0_countFrom_93 ⟨Nat.le_of_ble_eq_true rfl, Nat.le_of_ble_eq_true rfl⟩) (fun r93 H locs h hB => ?_)
          obtain ⟨hi96, h⟩ := h
          refine zz_last hx hb hB zdC_43 hi96 dX0_countFrom_96 (fun H locs hB => ?_)
          obtain ⟨L96, eL96⟩ : ∃ z : zz_L, z = zz_up L 43 ((x2 * (8 : Int32)) + x4).toNatClampNeg r93 := ⟨_, rfl⟩
          rw [← eL96] at hB
          have h := h L96 eL96
          obtain ⟨v97, ev97⟩ : ∃ z : Int32, z = x4 + (1 : Int32) := ⟨_, rfl⟩
          have h := h v97 ev97
          refine lv_iinc (v := v97) (lv' := [(4, .int v97), (5, .int r52), (0, .ref (a 37)), (1, .int x1), (2, .int x2), (3, .int x3)]) hx hb dX0_countFrom_97 hl (k := 5) rfl (by rw [ev97]; rfl) (by decide) rfl (fun ls hl => ?_)
          refine lv_goto (tgt := 23) hx hb dX0_countFrom_100 (by decide) ?_
          exact hK23 _ _ _ h H locs ls hB (lv_sub hl [2, 3, 4, 5, 0] rfl)
        · have h := h.2 c74
          refine lv_lconst (v := (1 : Int64)) hx hb dX0_countFrom_77 (by decide) ?_
          refine lv_goto (tgt := 96) hx hb dX0_countFrom_78 (by decide) ?_
          obtain ⟨hi96, h⟩ := h
          refine zz_last hx hb hB zdC_43 hi96 dX0_countFrom_96 (fun H locs hB => ?_)
          obtain ⟨L96, eL96⟩ : ∃ z : zz_L, z = zz_up L 43 ((x2 * (8 : Int32)) + x4).toNatClampNeg (1 : Int64) := ⟨_, rfl⟩
          rw [← eL96] at hB
          have h := h L96 eL96
          obtain ⟨v97, ev97⟩ : ∃ z : Int32, z = x4 + (1 : Int32) := ⟨_, rfl⟩
          have h := h v97 ev97
          refine lv_iinc (v := v97) (lv' := [(4, .int v97), (5, .int r52), (0, .ref (a 37)), (1, .int x1), (2, .int x2), (3, .int x3)]) hx hb dX0_countFrom_97 hl (k := 5) rfl (by rw [ev97]; rfl) (by decide) rfl (fun ls hl => ?_)
          refine lv_goto (tgt := 23) hx hb dX0_countFrom_100 (by decide) ?_
          exact hK23 _ _ _ h H locs ls hB (lv_sub hl [2, 3, 4, 5, 0] rfl)
def zp_X0_countFrom_23 (K7 : Int32 → zz_I → zz_L → Prop) (P : Int64 → zz_I → zz_L → Prop) (x1 : Int32) (x2 : Int32) (x3 : Int32) (x4 : Int32) (I : zz_I) (L : zz_L) : Prop := ∃ (Inv : Int32 → zz_I → zz_L → Prop) (μ : Int32 → zz_I → zz_L → Nat), Inv x4 I L ∧ ∀ (y4 : Int32) (I8 : zz_I) (L8 : zz_L), Inv y4 I8 L8 → zp_X0_countFrom_23b K7 (fun z4 I7 L7 => Inv z4 I7 L7 ∧ μ z4 I7 L7 < μ y4 I8 L8) P x1 x2 x3 y4 I8 L8
set_option maxHeartbeats 4000000 in
set_option maxRecDepth 100000 in
theorem zq_X0_countFrom_23 {p : Program} {l : Launch} {e : Env} {s : State} {m : MethodId} {args : Array Value} {below : List Frame} {meth : Method} {c : Code} {D : va_G} {ca : Nat → ClassId} {A : Nat → Prop} {a : Nat → Nat} {K7 : Int32 → zz_I → zz_L → Prop} {P : Int64 → zz_I → zz_L → Prop} {I : zz_I} {L : zz_L} {x1 : Int32} {x2 : Int32} {x3 : Int32} {x4 : Int32} (X : zz_X p s m meth c cX0_countFrom RX0 (some .long) 6) (hA : ∀ q, s.heap.size ≤ q → A q)  (hK7 : ∀ (y2 : Int32) (I8 : zz_I) (L8 : zz_L), K7 y2 I8 L8 → zz_Go p l e ({ frames := 1, cells := 0, slots := 0, locals := 26 } : Room) s m args below meth c 0 0 (MQ below (zz_Ql D ca zz_dC A a P) args s 0 0 A) D ca zz_dC A 6 7 a [] [(0, .ref (a 37)), (1, .int x1), (2, .int y2)] I8 L8) (h : zp_X0_countFrom_23 K7 P x1 x2 x3 x4 I L) : zz_Go p l e ({ frames := 1, cells := 0, slots := 0, locals := 26 } : Room) s m args below meth c 0 0 (MQ below (zz_Ql D ca zz_dC A a P) args s 0 0 A) D ca zz_dC A 6 23 a [] [(0, .ref (a 37)), (1, .int x1), (2, .int x2), (3, .int x3), (4, .int x4)] I L := by
  unfold zp_X0_countFrom_23 at h
  obtain ⟨Inv, μ, hv0, hs⟩ := h
  have key : ∀ (n9 : Nat) (y4 : Int32) (I8 : zz_I) (L8 : zz_L), μ y4 I8 L8 < n9 → Inv y4 I8 L8 → zz_Go p l e ({ frames := 1, cells := 0, slots := 0, locals := 26 } : Room) s m args below meth c 0 0 (MQ below (zz_Ql D ca zz_dC A a P) args s 0 0 A) D ca zz_dC A 6 23 a [] [(0, .ref (a 37)), (1, .int x1), (2, .int x2), (3, .int x3), (4, .int y4)] I8 L8 := by
    intro n9
    induction n9 with
    | zero => intro y4 I8 L8 hn; exact absurd hn (Nat.not_lt_zero _)
    | succ n9 ih =>
      intro y4 I8 L8 hn hi
      exact zq_X0_countFrom_23b (K23 := (fun z4 I7 L7 => Inv z4 I7 L7 ∧ μ z4 I7 L7 < μ y4 I8 L8)) X hA  hK7 (fun z4 I7 L7 hz => ih z4 I7 L7 (Nat.lt_of_lt_of_le hz.2 (Nat.le_of_lt_succ hn)) hz.1) (hs y4 I8 L8 hi)
  exact key _ x4 I L (Nat.lt_succ_self _) hv0
def zp_X0_countFrom_7b (K7 : Int32 → zz_I → zz_L → Prop) (P : Int64 → zz_I → zz_L → Prop) (x1 : Int32) (x2 : Int32) (I : zz_I) (L : zz_L) : Prop := (x2 < 0 → zp_X0_sumTails (0 : Int32) x1 (fun r112 => P r112 I L) I L) ∧ (¬ x2 < 0 → vp_in x2 25 ∧ (∀ v19 : Int32, v19 = (I 38 x2.toNatClampNeg) &&& x1 → (zp_X0_countFrom_23 K7 P x1 x2 v19 (0 : Int32) I L)))
set_option maxHeartbeats 4000000 in
set_option maxRecDepth 100000 in
theorem zq_X0_countFrom_7b {p : Program} {l : Launch} {e : Env} {s : State} {m : MethodId} {args : Array Value} {below : List Frame} {meth : Method} {c : Code} {D : va_G} {ca : Nat → ClassId} {A : Nat → Prop} {a : Nat → Nat} {K7 : Int32 → zz_I → zz_L → Prop} {P : Int64 → zz_I → zz_L → Prop} {I : zz_I} {L : zz_L} {x1 : Int32} {x2 : Int32} (X : zz_X p s m meth c cX0_countFrom RX0 (some .long) 6) (hA : ∀ q, s.heap.size ≤ q → A q)  (hK7 : ∀ (y2 : Int32) (I8 : zz_I) (L8 : zz_L), K7 y2 I8 L8 → zz_Go p l e ({ frames := 1, cells := 0, slots := 0, locals := 26 } : Room) s m args below meth c 0 0 (MQ below (zz_Ql D ca zz_dC A a P) args s 0 0 A) D ca zz_dC A 6 7 a [] [(0, .ref (a 37)), (1, .int x1), (2, .int y2)] I8 L8) (h : zp_X0_countFrom_7b K7 P x1 x2 I L) : zz_Go p l e ({ frames := 1, cells := 0, slots := 0, locals := 26 } : Room) s m args below meth c 0 0 (MQ below (zz_Ql D ca zz_dC A a P) args s 0 0 A) D ca zz_dC A 6 7 a [] [(0, .ref (a 37)), (1, .int x1), (2, .int x2)] I L := by
  obtain ⟨hx, hb, hml, hown, zw, hr, hlocks⟩ := id X
  intro H locs ls hB hl
  unfold zp_X0_countFrom_7b at h
  refine lv_iload_n hx hb dX0_countFrom_7 rfl (lv_at hl 2 rfl) ?_
  refine lv_if_lt (tgt := 109) hx hb dX0_countFrom_8 (by decide) (fun c8 => ?_) (fun c8 => ?_)
  · have h := h.1 c8
    refine lv_aload_n hx hb dX0_countFrom_109 rfl (lv_at hl 0 rfl) ?_
    refine lv_iconst (v := (0 : Int32)) hx hb dX0_countFrom_110 (by decide) ?_
    refine lv_iload_n hx hb dX0_countFrom_111 rfl (lv_at hl 1 rfl) ?_
    refine zz_golp hB hA (zz_runV (As := [.int (0 : Int32), .int x1]) (rest := []) hx hb hml hown zw hB zM_X0_117 (zc_X0_sumTails l D ca a I L H.size h) zdC_37 rfl rfl hl.1 rfl (Nat.le_of_ble_eq_true rfl) rfl rfl ⟨Nat.le_of_ble_eq_true rfl, Nat.le_of_ble_eq_true rfl⟩ dX0_countFrom_112 ⟨Nat.le_of_ble_eq_true rfl, Nat.le_of_ble_eq_true rfl⟩) (fun r112 H locs h hB => ?_)
    exact zz_lret hx hb hr hlocks hB h dX0_countFrom_115
  · have h := h.2 c8
    refine lv_aload_n hx hb dX0_countFrom_11 rfl (lv_at hl 0 rfl) ?_
    refine zz_getr (k' := 38) hx hb hown zw hB zF_X0_9 zdC_37 rfl rfl dX0_countFrom_12 ?_
    refine lv_iload_n hx hb dX0_countFrom_15 rfl (lv_at hl 2 rfl) ?_
    obtain ⟨hi16, h⟩ := h
    refine zz_iald hx hb hB zdC_38 hi16 dX0_countFrom_16 ?_
    refine lv_iload_n hx hb dX0_countFrom_17 rfl (lv_at hl 1 rfl) ?_
    refine lv_iand hx hb dX0_countFrom_18 ?_
    refine lv_topi (fun v19 ev19 => ?_)
    have h := h v19 ev19
    refine lv_istore_n (lv' := [(3, .int v19), (0, .ref (a 37)), (1, .int x1), (2, .int x2)]) hx hb dX0_countFrom_19 rfl hl (by decide) rfl (fun ls hl => ?_)
    refine lv_iconst (v := (0 : Int32)) hx hb dX0_countFrom_20 (by decide) ?_
    refine lv_istore (lv' := [(4, .int (0 : Int32)), (3, .int v19), (0, .ref (a 37)), (1, .int x1), (2, .int x2)]) hx hb dX0_countFrom_21 hl (by decide) rfl (fun ls hl => ?_)
    exact zq_X0_countFrom_23 X hA hK7 h H locs ls hB (lv_sub hl [2, 3, 4, 1, 0] rfl)
def zp_X0_countFrom_7  (P : Int64 → zz_I → zz_L → Prop) (x1 : Int32) (x2 : Int32) (I : zz_I) (L : zz_L) : Prop := ∃ (Inv : Int32 → zz_I → zz_L → Prop) (μ : Int32 → zz_I → zz_L → Nat), Inv x2 I L ∧ ∀ (y2 : Int32) (I8 : zz_I) (L8 : zz_L), Inv y2 I8 L8 → zp_X0_countFrom_7b  (fun z2 I7 L7 => Inv z2 I7 L7 ∧ μ z2 I7 L7 < μ y2 I8 L8) P x1 y2 I8 L8
set_option maxHeartbeats 4000000 in
set_option maxRecDepth 100000 in
theorem zq_X0_countFrom_7 {p : Program} {l : Launch} {e : Env} {s : State} {m : MethodId} {args : Array Value} {below : List Frame} {meth : Method} {c : Code} {D : va_G} {ca : Nat → ClassId} {A : Nat → Prop} {a : Nat → Nat}  {P : Int64 → zz_I → zz_L → Prop} {I : zz_I} {L : zz_L} {x1 : Int32} {x2 : Int32} (X : zz_X p s m meth c cX0_countFrom RX0 (some .long) 6) (hA : ∀ q, s.heap.size ≤ q → A q)   (h : zp_X0_countFrom_7  P x1 x2 I L) : zz_Go p l e ({ frames := 1, cells := 0, slots := 0, locals := 26 } : Room) s m args below meth c 0 0 (MQ below (zz_Ql D ca zz_dC A a P) args s 0 0 A) D ca zz_dC A 6 7 a [] [(0, .ref (a 37)), (1, .int x1), (2, .int x2)] I L := by
  unfold zp_X0_countFrom_7 at h
  obtain ⟨Inv, μ, hv0, hs⟩ := h
  have key : ∀ (n9 : Nat) (y2 : Int32) (I8 : zz_I) (L8 : zz_L), μ y2 I8 L8 < n9 → Inv y2 I8 L8 → zz_Go p l e ({ frames := 1, cells := 0, slots := 0, locals := 26 } : Room) s m args below meth c 0 0 (MQ below (zz_Ql D ca zz_dC A a P) args s 0 0 A) D ca zz_dC A 6 7 a [] [(0, .ref (a 37)), (1, .int x1), (2, .int y2)] I8 L8 := by
    intro n9
    induction n9 with
    | zero => intro y2 I8 L8 hn; exact absurd hn (Nat.not_lt_zero _)
    | succ n9 ih =>
      intro y2 I8 L8 hn hi
      exact zq_X0_countFrom_7b (K7 := (fun z2 I7 L7 => Inv z2 I7 L7 ∧ μ z2 I7 L7 < μ y2 I8 L8)) X hA   (fun z2 I7 L7 hz => ih z2 I7 L7 (Nat.lt_of_lt_of_le hz.2 (Nat.le_of_lt_succ hn)) hz.1) (hs y2 I8 L8 hi)
  exact key _ x2 I L (Nat.lt_succ_self _) hv0
def zp_X0_countFrom (x1 : Int32) (P : Int64 → zz_I → zz_L → Prop) (I : zz_I) (L : zz_L) : Prop := ∀ v6 : Int32, v6 = (I 37 6) - (1 : Int32) → (zp_X0_countFrom_7 P x1 v6 I L)
set_option maxHeartbeats 4000000 in
set_option maxRecDepth 100000 in
theorem zq_X0_countFrom {p : Program} {l : Launch} {e : Env} {s : State} {m : MethodId} {args : Array Value} {below : List Frame} {meth : Method} {c : Code} {D : va_G} {ca : Nat → ClassId} {A : Nat → Prop} {a : Nat → Nat}  {P : Int64 → zz_I → zz_L → Prop} {I : zz_I} {L : zz_L} {x1 : Int32} (X : zz_X p s m meth c cX0_countFrom RX0 (some .long) 6) (hA : ∀ q, s.heap.size ≤ q → A q)   (h : zp_X0_countFrom x1 P I L) : zz_Go p l e ({ frames := 1, cells := 0, slots := 0, locals := 26 } : Room) s m args below meth c 0 0 (MQ below (zz_Ql D ca zz_dC A a P) args s 0 0 A) D ca zz_dC A 6 0 a [] [(0, .ref (a 37)), (1, .int x1)] I L := by
  obtain ⟨hx, hb, hml, hown, zw, hr, hlocks⟩ := id X
  intro H locs ls hB hl
  unfold zp_X0_countFrom at h
  refine lv_aload_n hx hb dX0_countFrom_0 rfl (lv_at hl 0 rfl) ?_
  refine zz_geti hx hb hown zw hB zF_X0_31 zdC_37 rfl dX0_countFrom_1 ?_
  refine lv_iconst (v := (1 : Int32)) hx hb dX0_countFrom_4 (by decide) ?_
  refine lv_isub hx hb dX0_countFrom_5 ?_
  refine lv_topi (fun v6 ev6 => ?_)
  have h := h v6 ev6
  refine lv_istore_n (lv' := [(2, .int v6), (0, .ref (a 37)), (1, .int x1)]) hx hb dX0_countFrom_6 rfl hl (by decide) rfl (fun ls hl => ?_)
  exact zq_X0_countFrom_7 X hA  h H locs ls hB (lv_sub hl [1, 2, 0] rfl)
theorem zc_X0_countFrom (l : Launch) (D : va_G) (ca : Nat → ClassId) (a : Nat → Nat) (I : zz_I) (L : zz_L) (sz : Nat) {x1 : Int32} {P : Int64 → zz_I → zz_L → Prop}  (h : zp_X0_countFrom x1 P I L) : Met l yX0_countFrom [.code yX0_countFrom cX0_countFrom 6 (some .long)] ({ frames := 1, cells := 0, slots := 0, locals := 26 } : Room) (zz_Pre D ca zz_dC [.ref (a 37), .int x1] a I L sz) (zz_Ql D ca zz_dC (zz_A ca zz_dC a I L sz) a P) 0 0 (zz_A ca zz_dC a I L sz) :=
  zz_start (by decide) (Nat.le_of_ble_eq_true rfl) (fun p e s m below meth c X hsz hA => zq_X0_countFrom X hA  h)
def zp_X0_countAll (k2 : Nat) (P : Int64 → zz_I → zz_L → Prop) (I : zz_I) (L : zz_L) : Prop := zp_X0_lay k2 (fun I3 L3 => zp_X0_prune  (fun I7 L7 => zp_X0_countFrom (I7 37 8) (fun r15 I15 L15 => P r15 I15 L15) I7 L7) I3 L3) I L
set_option maxHeartbeats 4000000 in
set_option maxRecDepth 100000 in
theorem zq_X0_countAll {p : Program} {l : Launch} {e : Env} {s : State} {m : MethodId} {args : Array Value} {below : List Frame} {meth : Method} {c : Code} {D : va_G} {ca : Nat → ClassId} {A : Nat → Prop} {a : Nat → Nat}  {P : Int64 → zz_I → zz_L → Prop} {I : zz_I} {L : zz_L} {k2 : Nat} (X : zz_X p s m meth c cX0_countAll RX0 (some .long) 3) (hA : ∀ q, s.heap.size ≤ q → A q) (hk2 : zz_isT k2)  (h : zp_X0_countAll k2 P I L) : zz_Go p l e ({ frames := 3, cells := 0, slots := 0, locals := 77 } : Room) s m args below meth c 0 0 (MQ below (zz_Ql D ca zz_dC A a P) args s 0 0 A) D ca zz_dC A 3 0 a [] [(0, .ref (a 37)), (1, .ref (a 14)), (2, .ref (a k2))] I L := by
  obtain ⟨hx, hb, hml, hown, zw, hr, hlocks⟩ := id X
  intro H locs ls hB hl
  unfold zp_X0_countAll at h
  refine lv_aload_n hx hb dX0_countAll_0 rfl (lv_at hl 0 rfl) ?_
  refine lv_aload_n hx hb dX0_countAll_1 rfl (lv_at hl 1 rfl) ?_
  refine lv_aload_n hx hb dX0_countAll_2 rfl (lv_at hl 2 rfl) ?_
  refine zz_gov hB hA (zz_runV (As := [.ref (a 14), .ref (a k2)]) (rest := []) hx hb hml hown zw hB zM_X0_41 (zc_X0_lay l D ca a I L H.size hk2 h) zdC_37 rfl rfl hl.1 rfl (Nat.le_of_ble_eq_true rfl) rfl rfl ⟨Nat.le_of_ble_eq_true rfl, Nat.le_of_ble_eq_true rfl⟩ dX0_countAll_3 ⟨Nat.le_of_ble_eq_true rfl, Nat.le_of_ble_eq_true rfl⟩) (fun I3 L3 H locs h hB => ?_)
  refine lv_aload_n hx hb dX0_countAll_6 rfl (lv_at hl 0 rfl) ?_
  refine zz_gov hB hA (zz_runV (As := []) (rest := []) hx hb hml hown zw hB zM_X0_45 (zc_X0_prune l D ca a I3 L3 H.size h) zdC_37 rfl rfl hl.1 rfl (Nat.le_of_ble_eq_true rfl) rfl rfl ⟨Nat.le_of_ble_eq_true rfl, Nat.le_of_ble_eq_true rfl⟩ dX0_countAll_7 ⟨Nat.le_of_ble_eq_true rfl, Nat.le_of_ble_eq_true rfl⟩) (fun I7 L7 H locs h hB => ?_)
  refine lv_aload_n hx hb dX0_countAll_10 rfl (lv_at hl 0 rfl) ?_
  refine lv_aload_n hx hb dX0_countAll_11 rfl (lv_at hl 0 rfl) ?_
  refine zz_geti hx hb hown zw hB zF_X0_38 zdC_37 rfl dX0_countAll_12 ?_
  refine zz_gol hB hA (zz_runV (As := [.int (I7 37 8)]) (rest := []) hx hb hml hown zw hB zM_X0_48 (zc_X0_countFrom l D ca a I7 L7 H.size h) zdC_37 rfl rfl hl.1 rfl (Nat.le_of_ble_eq_true rfl) rfl rfl ⟨Nat.le_of_ble_eq_true rfl, Nat.le_of_ble_eq_true rfl⟩ dX0_countAll_15 ⟨Nat.le_of_ble_eq_true rfl, Nat.le_of_ble_eq_true rfl⟩) (fun r15 I15 L15 H locs h hB => ?_)
  exact zz_lret hx hb hr hlocks hB h dX0_countAll_18
theorem zc_X0_countAll (l : Launch) (D : va_G) (ca : Nat → ClassId) (a : Nat → Nat) (I : zz_I) (L : zz_L) (sz : Nat) {k2 : Nat} {P : Int64 → zz_I → zz_L → Prop} (hk2 : zz_isT k2) (h : zp_X0_countAll k2 P I L) : Met l yX0_countAll [.code yX0_countAll cX0_countAll 3 (some .long)] ({ frames := 3, cells := 0, slots := 0, locals := 77 } : Room) (zz_Pre D ca zz_dC [.ref (a 37), .ref (a 14), .ref (a k2)] a I L sz) (zz_Ql D ca zz_dC (zz_A ca zz_dC a I L sz) a P) 0 0 (zz_A ca zz_dC a I L sz) :=
  zz_start (by decide) (Nat.le_of_ble_eq_true rfl) (fun p e s m below meth c X hsz hA => zq_X0_countAll X hA hk2 h)
def zp_X0_passOn_3b (K3 : Int32 → zz_I → zz_L → Prop) (P : zz_I → zz_L → Prop) (x1 : Int64) (x3 : Int32) (x4 : Int32) (x5 : Int32) (I : zz_I) (L : zz_L) : Prop := ((I 37 7) ≤ x5 → P I L) ∧ (¬ (I 37 7) ≤ x5 → zp_X0_isOpen x3 x5 (fun r16 => (r16 = 0 → ∀ v48 : Int32, v48 = x5 + (1 : Int32) → (K3 v48 I L)) ∧ (¬ r16 = 0 → (((x4 >>> (x5 &&& 31)) &&& (1 : Int32)) = 0 → ∀ v48 : Int32, v48 = x5 + (1 : Int32) → (K3 v48 I L)) ∧ (¬ ((x4 >>> (x5 &&& 31)) &&& (1 : Int32)) = 0 → vp_in ((x3 * (8 : Int32)) + x5) 200 ∧ (vp_in ((x3 * (8 : Int32)) + x5) 200 ∧ (∀ L47 : zz_L, L47 = zz_up L 42 ((x3 * (8 : Int32)) + x5).toNatClampNeg ((L 42 ((x3 * (8 : Int32)) + x5).toNatClampNeg) + x1) → (∀ v48 : Int32, v48 = x5 + (1 : Int32) → (K3 v48 I L47))))))) I L)
set_option maxHeartbeats 4000000 in
set_option maxRecDepth 100000 in
theorem zq_X0_passOn_3b {p : Program} {l : Launch} {e : Env} {s : State} {m : MethodId} {args : Array Value} {below : List Frame} {meth : Method} {c : Code} {D : va_G} {ca : Nat → ClassId} {A : Nat → Prop} {a : Nat → Nat} {K3 : Int32 → zz_I → zz_L → Prop} {P : zz_I → zz_L → Prop} {I : zz_I} {L : zz_L} {x1 : Int64} {x3 : Int32} {x4 : Int32} {x5 : Int32} (X : zz_X p s m meth c cX0_passOn RX0 none 6) (hA : ∀ q, s.heap.size ≤ q → A q)  (hK3 : ∀ (y5 : Int32) (I8 : zz_I) (L8 : zz_L), K3 y5 I8 L8 → zz_Go p l e ({ frames := 1, cells := 0, slots := 0, locals := 22 } : Room) s m args below meth c 0 0 (MQ below (zz_Qv D ca zz_dC A a P) args s 0 0 A) D ca zz_dC A 6 3 a [] [(0, .ref (a 37)), (1, .long x1), (3, .int x3), (4, .int x4), (5, .int y5)] I8 L8) (h : zp_X0_passOn_3b K3 P x1 x3 x4 x5 I L) : zz_Go p l e ({ frames := 1, cells := 0, slots := 0, locals := 22 } : Room) s m args below meth c 0 0 (MQ below (zz_Qv D ca zz_dC A a P) args s 0 0 A) D ca zz_dC A 6 3 a [] [(0, .ref (a 37)), (1, .long x1), (3, .int x3), (4, .int x4), (5, .int x5)] I L := by
  obtain ⟨hx, hb, hml, hown, zw, hr, hlocks⟩ := id X
  intro H locs ls hB hl
  unfold zp_X0_passOn_3b at h
  refine lv_iload hx hb dX0_passOn_3 (lv_at hl 4 rfl) ?_
  refine lv_aload_n hx hb dX0_passOn_5 rfl (lv_at hl 0 rfl) ?_
  refine zz_geti hx hb hown zw hB zF_X0_35 zdC_37 rfl dX0_passOn_6 ?_
  refine lv_icmp_ge (tgt := 54) hx hb dX0_passOn_9 (by decide) (fun c9 => ?_) (fun c9 => ?_)
  · have h := h.1 c9
    exact zz_vret hx hb hr hlocks hB h dX0_passOn_54
  · have h := h.2 c9
    refine lv_aload_n hx hb dX0_passOn_12 rfl (lv_at hl 0 rfl) ?_
    refine lv_iload_n hx hb dX0_passOn_13 rfl (lv_at hl 2 rfl) ?_
    refine lv_iload hx hb dX0_passOn_14 (lv_at hl 4 rfl) ?_
    refine zz_goip hB hA (zz_runV (As := [.int x3, .int x5]) (rest := []) hx hb hml hown zw hB zM_X0_106 (zc_X0_isOpen l D ca a I L H.size h) zdC_37 rfl rfl hl.1 rfl (Nat.le_of_ble_eq_true rfl) rfl rfl ⟨Nat.le_of_ble_eq_true rfl, Nat.le_of_ble_eq_true rfl⟩ dX0_passOn_16 ⟨Nat.le_of_ble_eq_true rfl, Nat.le_of_ble_eq_true rfl⟩) (fun r16 H locs h hB => ?_)
    refine lv_if_eq (tgt := 48) hx hb dX0_passOn_19 (by decide) (fun c19 => ?_) (fun c19 => ?_)
    · have h := h.1 c19
      obtain ⟨v48, ev48⟩ : ∃ z : Int32, z = x5 + (1 : Int32) := ⟨_, rfl⟩
      have h := h v48 ev48
      refine lv_iinc (v := v48) (lv' := [(5, .int v48), (0, .ref (a 37)), (1, .long x1), (3, .int x3), (4, .int x4)]) hx hb dX0_passOn_48 hl (k := 4) rfl (by rw [ev48]; rfl) (by decide) rfl (fun ls hl => ?_)
      refine lv_goto (tgt := 3) hx hb dX0_passOn_51 (by decide) ?_
      exact hK3 _ _ _ h H locs ls hB (lv_sub hl [1, 2, 3, 4, 0] rfl)
    · have h := h.2 c19
      refine lv_iload hx hb dX0_passOn_22 (lv_at hl 3 rfl) ?_
      refine lv_iload hx hb dX0_passOn_24 (lv_at hl 4 rfl) ?_
      refine lv_ishr hx hb dX0_passOn_26 ?_
      refine lv_iconst (v := (1 : Int32)) hx hb dX0_passOn_27 (by decide) ?_
      refine lv_iand hx hb dX0_passOn_28 ?_
      refine lv_if_eq (tgt := 48) hx hb dX0_passOn_29 (by decide) (fun c29 => ?_) (fun c29 => ?_)
      · have h := h.1 c29
        obtain ⟨v48, ev48⟩ : ∃ z : Int32, z = x5 + (1 : Int32) := ⟨_, rfl⟩
        have h := h v48 ev48
        refine lv_iinc (v := v48) (lv' := [(5, .int v48), (0, .ref (a 37)), (1, .long x1), (3, .int x3), (4, .int x4)]) hx hb dX0_passOn_48 hl (k := 4) rfl (by rw [ev48]; rfl) (by decide) rfl (fun ls hl => ?_)
        refine lv_goto (tgt := 3) hx hb dX0_passOn_51 (by decide) ?_
        exact hK3 _ _ _ h H locs ls hB (lv_sub hl [1, 2, 3, 4, 0] rfl)
      · have h := h.2 c29
        refine lv_aload_n hx hb dX0_passOn_32 rfl (lv_at hl 0 rfl) ?_
        refine zz_getr (k' := 42) hx hb hown zw hB zF_X0_24 zdC_37 rfl rfl dX0_passOn_33 ?_
        refine lv_iload_n hx hb dX0_passOn_36 rfl (lv_at hl 2 rfl) ?_
        refine lv_bipush (v := (8 : Int32)) hx hb dX0_passOn_37 (by decide) ?_
        refine lv_imul hx hb dX0_passOn_39 ?_
        refine lv_iload hx hb dX0_passOn_40 (lv_at hl 4 rfl) ?_
        refine lv_iadd hx hb dX0_passOn_42 ?_
        refine lv_dup2_11 hx hb dX0_passOn_43 rfl rfl ?_
        obtain ⟨hi44, h⟩ := h
        refine zz_lald hx hb hB zdC_42 hi44 dX0_passOn_44 ?_
        refine lv_lload_n hx hb dX0_passOn_45 rfl (lv_at hl 1 rfl) ?_
        refine lv_ladd hx hb dX0_passOn_46 ?_
        obtain ⟨hi47, h⟩ := h
        refine zz_last hx hb hB zdC_42 hi47 dX0_passOn_47 (fun H locs hB => ?_)
        obtain ⟨L47, eL47⟩ : ∃ z : zz_L, z = zz_up L 42 ((x3 * (8 : Int32)) + x5).toNatClampNeg ((L 42 ((x3 * (8 : Int32)) + x5).toNatClampNeg) + x1) := ⟨_, rfl⟩
        rw [← eL47] at hB
        have h := h L47 eL47
        obtain ⟨v48, ev48⟩ : ∃ z : Int32, z = x5 + (1 : Int32) := ⟨_, rfl⟩
        have h := h v48 ev48
        refine lv_iinc (v := v48) (lv' := [(5, .int v48), (0, .ref (a 37)), (1, .long x1), (3, .int x3), (4, .int x4)]) hx hb dX0_passOn_48 hl (k := 4) rfl (by rw [ev48]; rfl) (by decide) rfl (fun ls hl => ?_)
        refine lv_goto (tgt := 3) hx hb dX0_passOn_51 (by decide) ?_
        exact hK3 _ _ _ h H locs ls hB (lv_sub hl [1, 2, 3, 4, 0] rfl)
def zp_X0_passOn_3  (P : zz_I → zz_L → Prop) (x1 : Int64) (x3 : Int32) (x4 : Int32) (x5 : Int32) (I : zz_I) (L : zz_L) : Prop := ∃ (Inv : Int32 → zz_I → zz_L → Prop) (μ : Int32 → zz_I → zz_L → Nat), Inv x5 I L ∧ ∀ (y5 : Int32) (I8 : zz_I) (L8 : zz_L), Inv y5 I8 L8 → zp_X0_passOn_3b  (fun z5 I7 L7 => Inv z5 I7 L7 ∧ μ z5 I7 L7 < μ y5 I8 L8) P x1 x3 x4 y5 I8 L8
set_option maxHeartbeats 4000000 in
set_option maxRecDepth 100000 in
theorem zq_X0_passOn_3 {p : Program} {l : Launch} {e : Env} {s : State} {m : MethodId} {args : Array Value} {below : List Frame} {meth : Method} {c : Code} {D : va_G} {ca : Nat → ClassId} {A : Nat → Prop} {a : Nat → Nat}  {P : zz_I → zz_L → Prop} {I : zz_I} {L : zz_L} {x1 : Int64} {x3 : Int32} {x4 : Int32} {x5 : Int32} (X : zz_X p s m meth c cX0_passOn RX0 none 6) (hA : ∀ q, s.heap.size ≤ q → A q)   (h : zp_X0_passOn_3  P x1 x3 x4 x5 I L) : zz_Go p l e ({ frames := 1, cells := 0, slots := 0, locals := 22 } : Room) s m args below meth c 0 0 (MQ below (zz_Qv D ca zz_dC A a P) args s 0 0 A) D ca zz_dC A 6 3 a [] [(0, .ref (a 37)), (1, .long x1), (3, .int x3), (4, .int x4), (5, .int x5)] I L := by
  unfold zp_X0_passOn_3 at h
  obtain ⟨Inv, μ, hv0, hs⟩ := h
  have key : ∀ (n9 : Nat) (y5 : Int32) (I8 : zz_I) (L8 : zz_L), μ y5 I8 L8 < n9 → Inv y5 I8 L8 → zz_Go p l e ({ frames := 1, cells := 0, slots := 0, locals := 22 } : Room) s m args below meth c 0 0 (MQ below (zz_Qv D ca zz_dC A a P) args s 0 0 A) D ca zz_dC A 6 3 a [] [(0, .ref (a 37)), (1, .long x1), (3, .int x3), (4, .int x4), (5, .int y5)] I8 L8 := by
    intro n9
    induction n9 with
    | zero => intro y5 I8 L8 hn; exact absurd hn (Nat.not_lt_zero _)
    | succ n9 ih =>
      intro y5 I8 L8 hn hi
      exact zq_X0_passOn_3b (K3 := (fun z5 I7 L7 => Inv z5 I7 L7 ∧ μ z5 I7 L7 < μ y5 I8 L8)) X hA   (fun z5 I7 L7 hz => ih z5 I7 L7 (Nat.lt_of_lt_of_le hz.2 (Nat.le_of_lt_succ hn)) hz.1) (hs y5 I8 L8 hi)
  exact key _ x5 I L (Nat.lt_succ_self _) hv0
def zp_X0_passOn (x1 : Int64) (x3 : Int32) (x4 : Int32) (P : zz_I → zz_L → Prop) (I : zz_I) (L : zz_L) : Prop := zp_X0_passOn_3 P x1 x3 x4 (0 : Int32) I L
set_option maxHeartbeats 4000000 in
set_option maxRecDepth 100000 in
theorem zq_X0_passOn {p : Program} {l : Launch} {e : Env} {s : State} {m : MethodId} {args : Array Value} {below : List Frame} {meth : Method} {c : Code} {D : va_G} {ca : Nat → ClassId} {A : Nat → Prop} {a : Nat → Nat}  {P : zz_I → zz_L → Prop} {I : zz_I} {L : zz_L} {x1 : Int64} {x3 : Int32} {x4 : Int32} (X : zz_X p s m meth c cX0_passOn RX0 none 6) (hA : ∀ q, s.heap.size ≤ q → A q)   (h : zp_X0_passOn x1 x3 x4 P I L) : zz_Go p l e ({ frames := 1, cells := 0, slots := 0, locals := 22 } : Room) s m args below meth c 0 0 (MQ below (zz_Qv D ca zz_dC A a P) args s 0 0 A) D ca zz_dC A 6 0 a [] [(0, .ref (a 37)), (1, .long x1), (3, .int x3), (4, .int x4)] I L := by
  obtain ⟨hx, hb, hml, hown, zw, hr, hlocks⟩ := id X
  intro H locs ls hB hl
  unfold zp_X0_passOn at h
  refine lv_iconst (v := (0 : Int32)) hx hb dX0_passOn_0 (by decide) ?_
  refine lv_istore (lv' := [(5, .int (0 : Int32)), (0, .ref (a 37)), (1, .long x1), (3, .int x3), (4, .int x4)]) hx hb dX0_passOn_1 hl (by decide) rfl (fun ls hl => ?_)
  exact zq_X0_passOn_3 X hA  h H locs ls hB (lv_sub hl [1, 2, 3, 4, 0] rfl)
theorem zc_X0_passOn (l : Launch) (D : va_G) (ca : Nat → ClassId) (a : Nat → Nat) (I : zz_I) (L : zz_L) (sz : Nat) {x1 : Int64} {x3 : Int32} {x4 : Int32} {P : zz_I → zz_L → Prop}  (h : zp_X0_passOn x1 x3 x4 P I L) : Met l yX0_passOn [.code yX0_passOn cX0_passOn 6 none] ({ frames := 1, cells := 0, slots := 0, locals := 22 } : Room) (zz_Pre D ca zz_dC [.ref (a 37), .long x1, .int x3, .int x4] a I L sz) (zz_Qv D ca zz_dC (zz_A ca zz_dC a I L sz) a P) 0 0 (zz_A ca zz_dC a I L sz) :=
  zz_start (by decide) (Nat.le_of_ble_eq_true rfl) (fun p e s m below meth c X hsz hA => zq_X0_passOn X hA  h)
def zp_X0_countHeads_56b (K46 : Int32 → zz_I → zz_L → Prop) (K56 : Int32 → zz_I → zz_L → Prop) (P : zz_I → zz_L → Prop) (x1 : Int32) (x2 : Int32) (I : zz_I) (L : zz_L) : Prop := ((I 37 7) ≤ x2 → ∀ v119 : Int32, v119 = x1 + (1 : Int32) → (K46 v119 I L)) ∧ (¬ (I 37 7) ≤ x2 → zp_X0_isOpen x1 x2 (fun r67 => (r67 = 0 → ∀ v113 : Int32, v113 = x2 + (1 : Int32) → (K56 v113 I L)) ∧ (¬ r67 = 0 → zp_X0_nextUnit x1 x2 (fun r76 => ((I 37 6) < r76 → ∀ v113 : Int32, v113 = x2 + (1 : Int32) → (K56 v113 I L)) ∧ (¬ (I 37 6) < r76 → vp_in ((x1 * (8 : Int32)) + x2) 200 ∧ (zp_X0_nextUnit x1 x2 (fun r101 => vp_in x2 8 ∧ (zp_X0_passOn (L 42 ((x1 * (8 : Int32)) + x2).toNatClampNeg) r101 (I 40 x2.toNatClampNeg) (fun I110 L110 => ∀ v113 : Int32, v113 = x2 + (1 : Int32) → (K56 v113 I110 L110)) I L)) I L))) I L)) I L)
set_option maxHeartbeats 4000000 in
set_option maxRecDepth 100000 in
theorem zq_X0_countHeads_56b {p : Program} {l : Launch} {e : Env} {s : State} {m : MethodId} {args : Array Value} {below : List Frame} {meth : Method} {c : Code} {D : va_G} {ca : Nat → ClassId} {A : Nat → Prop} {a : Nat → Nat} {K46 : Int32 → zz_I → zz_L → Prop} {K56 : Int32 → zz_I → zz_L → Prop} {P : zz_I → zz_L → Prop} {I : zz_I} {L : zz_L} {x1 : Int32} {x2 : Int32} (X : zz_X p s m meth c cX0_countHeads RX0 none 3) (hA : ∀ q, s.heap.size ≤ q → A q)  (hK46 : ∀ (y1 : Int32) (I8 : zz_I) (L8 : zz_L), K46 y1 I8 L8 → zz_Go p l e ({ frames := 2, cells := 0, slots := 0, locals := 47 } : Room) s m args below meth c 0 0 (MQ below (zz_Qv D ca zz_dC A a P) args s 0 0 A) D ca zz_dC A 3 46 a [] [(0, .ref (a 37)), (1, .int y1)] I8 L8) (hK56 : ∀ (y2 : Int32) (I8 : zz_I) (L8 : zz_L), K56 y2 I8 L8 → zz_Go p l e ({ frames := 2, cells := 0, slots := 0, locals := 47 } : Room) s m args below meth c 0 0 (MQ below (zz_Qv D ca zz_dC A a P) args s 0 0 A) D ca zz_dC A 3 56 a [] [(0, .ref (a 37)), (1, .int x1), (2, .int y2)] I8 L8) (h : zp_X0_countHeads_56b K46 K56 P x1 x2 I L) : zz_Go p l e ({ frames := 2, cells := 0, slots := 0, locals := 47 } : Room) s m args below meth c 0 0 (MQ below (zz_Qv D ca zz_dC A a P) args s 0 0 A) D ca zz_dC A 3 56 a [] [(0, .ref (a 37)), (1, .int x1), (2, .int x2)] I L := by
  obtain ⟨hx, hb, hml, hown, zw, hr, hlocks⟩ := id X
  intro H locs ls hB hl
  unfold zp_X0_countHeads_56b at h
  refine lv_iload_n hx hb dX0_countHeads_56 rfl (lv_at hl 2 rfl) ?_
  refine lv_aload_n hx hb dX0_countHeads_57 rfl (lv_at hl 0 rfl) ?_
  refine zz_geti hx hb hown zw hB zF_X0_35 zdC_37 rfl dX0_countHeads_58 ?_
  refine lv_icmp_ge (tgt := 119) hx hb dX0_countHeads_61 (by decide) (fun c61 => ?_) (fun c61 => ?_)
  · have h := h.1 c61
    obtain ⟨v119, ev119⟩ : ∃ z : Int32, z = x1 + (1 : Int32) := ⟨_, rfl⟩
    have h := h v119 ev119
    refine lv_iinc (v := v119) (lv' := [(1, .int v119), (0, .ref (a 37)), (2, .int x2)]) hx hb dX0_countHeads_119 hl (k := 1) rfl (by rw [ev119]; rfl) (by decide) rfl (fun ls hl => ?_)
    refine lv_goto (tgt := 46) hx hb dX0_countHeads_122 (by decide) ?_
    exact hK46 _ _ _ h H locs ls hB (lv_sub hl [1, 0] rfl)
  · have h := h.2 c61
    refine lv_aload_n hx hb dX0_countHeads_64 rfl (lv_at hl 0 rfl) ?_
    refine lv_iload_n hx hb dX0_countHeads_65 rfl (lv_at hl 1 rfl) ?_
    refine lv_iload_n hx hb dX0_countHeads_66 rfl (lv_at hl 2 rfl) ?_
    refine zz_goip hB hA (zz_runV (As := [.int x1, .int x2]) (rest := []) hx hb hml hown zw hB zM_X0_106 (zc_X0_isOpen l D ca a I L H.size h) zdC_37 rfl rfl hl.1 rfl (Nat.le_of_ble_eq_true rfl) rfl rfl ⟨Nat.le_of_ble_eq_true rfl, Nat.le_of_ble_eq_true rfl⟩ dX0_countHeads_67 ⟨Nat.le_of_ble_eq_true rfl, Nat.le_of_ble_eq_true rfl⟩) (fun r67 H locs h hB => ?_)
    refine lv_if_eq (tgt := 113) hx hb dX0_countHeads_70 (by decide) (fun c70 => ?_) (fun c70 => ?_)
    · have h := h.1 c70
      obtain ⟨v113, ev113⟩ : ∃ z : Int32, z = x2 + (1 : Int32) := ⟨_, rfl⟩
      have h := h v113 ev113
      refine lv_iinc (v := v113) (lv' := [(2, .int v113), (0, .ref (a 37)), (1, .int x1)]) hx hb dX0_countHeads_113 hl (k := 2) rfl (by rw [ev113]; rfl) (by decide) rfl (fun ls hl => ?_)
      refine lv_goto (tgt := 56) hx hb dX0_countHeads_116 (by decide) ?_
      exact hK56 _ _ _ h H locs ls hB (lv_sub hl [1, 2, 0] rfl)
    · have h := h.2 c70
      refine lv_aload_n hx hb dX0_countHeads_73 rfl (lv_at hl 0 rfl) ?_
      refine lv_iload_n hx hb dX0_countHeads_74 rfl (lv_at hl 1 rfl) ?_
      refine lv_iload_n hx hb dX0_countHeads_75 rfl (lv_at hl 2 rfl) ?_
      refine zz_goip hB hA (zz_runV (As := [.int x1, .int x2]) (rest := []) hx hb hml hown zw hB zM_X0_110 (zc_X0_nextUnit l D ca a I L H.size h) zdC_37 rfl rfl hl.1 rfl (Nat.le_of_ble_eq_true rfl) rfl rfl ⟨Nat.le_of_ble_eq_true rfl, Nat.le_of_ble_eq_true rfl⟩ dX0_countHeads_76 ⟨Nat.le_of_ble_eq_true rfl, Nat.le_of_ble_eq_true rfl⟩) (fun r76 H locs h hB => ?_)
      refine lv_aload_n hx hb dX0_countHeads_79 rfl (lv_at hl 0 rfl) ?_
      refine zz_geti hx hb hown zw hB zF_X0_31 zdC_37 rfl dX0_countHeads_80 ?_
      refine lv_icmp_gt (tgt := 113) hx hb dX0_countHeads_83 (by decide) (fun c83 => ?_) (fun c83 => ?_)
      · have h := h.1 c83
        obtain ⟨v113, ev113⟩ : ∃ z : Int32, z = x2 + (1 : Int32) := ⟨_, rfl⟩
        have h := h v113 ev113
        refine lv_iinc (v := v113) (lv' := [(2, .int v113), (0, .ref (a 37)), (1, .int x1)]) hx hb dX0_countHeads_113 hl (k := 2) rfl (by rw [ev113]; rfl) (by decide) rfl (fun ls hl => ?_)
        refine lv_goto (tgt := 56) hx hb dX0_countHeads_116 (by decide) ?_
        exact hK56 _ _ _ h H locs ls hB (lv_sub hl [1, 2, 0] rfl)
      · have h := h.2 c83
        refine lv_aload_n hx hb dX0_countHeads_86 rfl (lv_at hl 0 rfl) ?_
        refine lv_aload_n hx hb dX0_countHeads_87 rfl (lv_at hl 0 rfl) ?_
        refine zz_getr (k' := 42) hx hb hown zw hB zF_X0_24 zdC_37 rfl rfl dX0_countHeads_88 ?_
        refine lv_iload_n hx hb dX0_countHeads_91 rfl (lv_at hl 1 rfl) ?_
        refine lv_bipush (v := (8 : Int32)) hx hb dX0_countHeads_92 (by decide) ?_
        refine lv_imul hx hb dX0_countHeads_94 ?_
        refine lv_iload_n hx hb dX0_countHeads_95 rfl (lv_at hl 2 rfl) ?_
        refine lv_iadd hx hb dX0_countHeads_96 ?_
        obtain ⟨hi97, h⟩ := h
        refine zz_lald hx hb hB zdC_42 hi97 dX0_countHeads_97 ?_
        refine lv_aload_n hx hb dX0_countHeads_98 rfl (lv_at hl 0 rfl) ?_
        refine lv_iload_n hx hb dX0_countHeads_99 rfl (lv_at hl 1 rfl) ?_
        refine lv_iload_n hx hb dX0_countHeads_100 rfl (lv_at hl 2 rfl) ?_
        refine zz_goip hB hA (zz_runV (As := [.int x1, .int x2]) (rest := [.long (L 42 ((x1 * (8 : Int32)) + x2).toNatClampNeg), .ref (a 37)]) hx hb hml hown zw hB zM_X0_110 (zc_X0_nextUnit l D ca a I L H.size h) zdC_37 rfl rfl hl.1 rfl (Nat.le_of_ble_eq_true rfl) rfl rfl ⟨Nat.le_of_ble_eq_true rfl, Nat.le_of_ble_eq_true rfl⟩ dX0_countHeads_101 ⟨Nat.le_of_ble_eq_true rfl, Nat.le_of_ble_eq_true rfl⟩) (fun r101 H locs h hB => ?_)
        refine lv_aload_n hx hb dX0_countHeads_104 rfl (lv_at hl 0 rfl) ?_
        refine zz_getr (k' := 40) hx hb hown zw hB zF_X0_18 zdC_37 rfl rfl dX0_countHeads_105 ?_
        refine lv_iload_n hx hb dX0_countHeads_108 rfl (lv_at hl 2 rfl) ?_
        obtain ⟨hi109, h⟩ := h
        refine zz_iald hx hb hB zdC_40 hi109 dX0_countHeads_109 ?_
        refine zz_gov hB hA (zz_runV (As := [.long (L 42 ((x1 * (8 : Int32)) + x2).toNatClampNeg), .int r101, .int (I 40 x2.toNatClampNeg)]) (rest := []) hx hb hml hown zw hB zM_X0_124 (zc_X0_passOn l D ca a I L H.size h) zdC_37 rfl rfl hl.1 rfl (Nat.le_of_ble_eq_true rfl) rfl rfl ⟨Nat.le_of_ble_eq_true rfl, Nat.le_of_ble_eq_true rfl⟩ dX0_countHeads_110 ⟨Nat.le_of_ble_eq_true rfl, Nat.le_of_ble_eq_true rfl⟩) (fun I110 L110 H locs h hB => ?_)
        obtain ⟨v113, ev113⟩ : ∃ z : Int32, z = x2 + (1 : Int32) := ⟨_, rfl⟩
        have h := h v113 ev113
        refine lv_iinc (v := v113) (lv' := [(2, .int v113), (0, .ref (a 37)), (1, .int x1)]) hx hb dX0_countHeads_113 hl (k := 2) rfl (by rw [ev113]; rfl) (by decide) rfl (fun ls hl => ?_)
        refine lv_goto (tgt := 56) hx hb dX0_countHeads_116 (by decide) ?_
        exact hK56 _ _ _ h H locs ls hB (lv_sub hl [1, 2, 0] rfl)
def zp_X0_countHeads_56 (K46 : Int32 → zz_I → zz_L → Prop) (P : zz_I → zz_L → Prop) (x1 : Int32) (x2 : Int32) (I : zz_I) (L : zz_L) : Prop := ∃ (Inv : Int32 → zz_I → zz_L → Prop) (μ : Int32 → zz_I → zz_L → Nat), Inv x2 I L ∧ ∀ (y2 : Int32) (I8 : zz_I) (L8 : zz_L), Inv y2 I8 L8 → zp_X0_countHeads_56b K46 (fun z2 I7 L7 => Inv z2 I7 L7 ∧ μ z2 I7 L7 < μ y2 I8 L8) P x1 y2 I8 L8
set_option maxHeartbeats 4000000 in
set_option maxRecDepth 100000 in
theorem zq_X0_countHeads_56 {p : Program} {l : Launch} {e : Env} {s : State} {m : MethodId} {args : Array Value} {below : List Frame} {meth : Method} {c : Code} {D : va_G} {ca : Nat → ClassId} {A : Nat → Prop} {a : Nat → Nat} {K46 : Int32 → zz_I → zz_L → Prop} {P : zz_I → zz_L → Prop} {I : zz_I} {L : zz_L} {x1 : Int32} {x2 : Int32} (X : zz_X p s m meth c cX0_countHeads RX0 none 3) (hA : ∀ q, s.heap.size ≤ q → A q)  (hK46 : ∀ (y1 : Int32) (I8 : zz_I) (L8 : zz_L), K46 y1 I8 L8 → zz_Go p l e ({ frames := 2, cells := 0, slots := 0, locals := 47 } : Room) s m args below meth c 0 0 (MQ below (zz_Qv D ca zz_dC A a P) args s 0 0 A) D ca zz_dC A 3 46 a [] [(0, .ref (a 37)), (1, .int y1)] I8 L8) (h : zp_X0_countHeads_56 K46 P x1 x2 I L) : zz_Go p l e ({ frames := 2, cells := 0, slots := 0, locals := 47 } : Room) s m args below meth c 0 0 (MQ below (zz_Qv D ca zz_dC A a P) args s 0 0 A) D ca zz_dC A 3 56 a [] [(0, .ref (a 37)), (1, .int x1), (2, .int x2)] I L := by
  unfold zp_X0_countHeads_56 at h
  obtain ⟨Inv, μ, hv0, hs⟩ := h
  have key : ∀ (n9 : Nat) (y2 : Int32) (I8 : zz_I) (L8 : zz_L), μ y2 I8 L8 < n9 → Inv y2 I8 L8 → zz_Go p l e ({ frames := 2, cells := 0, slots := 0, locals := 47 } : Room) s m args below meth c 0 0 (MQ below (zz_Qv D ca zz_dC A a P) args s 0 0 A) D ca zz_dC A 3 56 a [] [(0, .ref (a 37)), (1, .int x1), (2, .int y2)] I8 L8 := by
    intro n9
    induction n9 with
    | zero => intro y2 I8 L8 hn; exact absurd hn (Nat.not_lt_zero _)
    | succ n9 ih =>
      intro y2 I8 L8 hn hi
      exact zq_X0_countHeads_56b (K56 := (fun z2 I7 L7 => Inv z2 I7 L7 ∧ μ z2 I7 L7 < μ y2 I8 L8)) X hA  hK46 (fun z2 I7 L7 hz => ih z2 I7 L7 (Nat.lt_of_lt_of_le hz.2 (Nat.le_of_lt_succ hn)) hz.1) (hs y2 I8 L8 hi)
  exact key _ x2 I L (Nat.lt_succ_self _) hv0
def zp_X0_countHeads_46b (K46 : Int32 → zz_I → zz_L → Prop) (P : zz_I → zz_L → Prop) (x1 : Int32) (I : zz_I) (L : zz_L) : Prop := ((I 37 6) ≤ x1 → P I L) ∧ (¬ (I 37 6) ≤ x1 → zp_X0_countHeads_56 K46 P x1 (0 : Int32) I L)
set_option maxHeartbeats 4000000 in
set_option maxRecDepth 100000 in
theorem zq_X0_countHeads_46b {p : Program} {l : Launch} {e : Env} {s : State} {m : MethodId} {args : Array Value} {below : List Frame} {meth : Method} {c : Code} {D : va_G} {ca : Nat → ClassId} {A : Nat → Prop} {a : Nat → Nat} {K46 : Int32 → zz_I → zz_L → Prop} {P : zz_I → zz_L → Prop} {I : zz_I} {L : zz_L} {x1 : Int32} (X : zz_X p s m meth c cX0_countHeads RX0 none 3) (hA : ∀ q, s.heap.size ≤ q → A q)  (hK46 : ∀ (y1 : Int32) (I8 : zz_I) (L8 : zz_L), K46 y1 I8 L8 → zz_Go p l e ({ frames := 2, cells := 0, slots := 0, locals := 47 } : Room) s m args below meth c 0 0 (MQ below (zz_Qv D ca zz_dC A a P) args s 0 0 A) D ca zz_dC A 3 46 a [] [(0, .ref (a 37)), (1, .int y1)] I8 L8) (h : zp_X0_countHeads_46b K46 P x1 I L) : zz_Go p l e ({ frames := 2, cells := 0, slots := 0, locals := 47 } : Room) s m args below meth c 0 0 (MQ below (zz_Qv D ca zz_dC A a P) args s 0 0 A) D ca zz_dC A 3 46 a [] [(0, .ref (a 37)), (1, .int x1)] I L := by
  obtain ⟨hx, hb, hml, hown, zw, hr, hlocks⟩ := id X
  intro H locs ls hB hl
  unfold zp_X0_countHeads_46b at h
  refine lv_iload_n hx hb dX0_countHeads_46 rfl (lv_at hl 1 rfl) ?_
  refine lv_aload_n hx hb dX0_countHeads_47 rfl (lv_at hl 0 rfl) ?_
  refine zz_geti hx hb hown zw hB zF_X0_31 zdC_37 rfl dX0_countHeads_48 ?_
  refine lv_icmp_ge (tgt := 125) hx hb dX0_countHeads_51 (by decide) (fun c51 => ?_) (fun c51 => ?_)
  · have h := h.1 c51
    exact zz_vret hx hb hr hlocks hB h dX0_countHeads_125
  · have h := h.2 c51
    refine lv_iconst (v := (0 : Int32)) hx hb dX0_countHeads_54 (by decide) ?_
    refine lv_istore_n (lv' := [(2, .int (0 : Int32)), (0, .ref (a 37)), (1, .int x1)]) hx hb dX0_countHeads_55 rfl hl (by decide) rfl (fun ls hl => ?_)
    exact zq_X0_countHeads_56 X hA hK46 h H locs ls hB (lv_sub hl [1, 2, 0] rfl)
def zp_X0_countHeads_46  (P : zz_I → zz_L → Prop) (x1 : Int32) (I : zz_I) (L : zz_L) : Prop := ∃ (Inv : Int32 → zz_I → zz_L → Prop) (μ : Int32 → zz_I → zz_L → Nat), Inv x1 I L ∧ ∀ (y1 : Int32) (I8 : zz_I) (L8 : zz_L), Inv y1 I8 L8 → zp_X0_countHeads_46b  (fun z1 I7 L7 => Inv z1 I7 L7 ∧ μ z1 I7 L7 < μ y1 I8 L8) P y1 I8 L8
set_option maxHeartbeats 4000000 in
set_option maxRecDepth 100000 in
theorem zq_X0_countHeads_46 {p : Program} {l : Launch} {e : Env} {s : State} {m : MethodId} {args : Array Value} {below : List Frame} {meth : Method} {c : Code} {D : va_G} {ca : Nat → ClassId} {A : Nat → Prop} {a : Nat → Nat}  {P : zz_I → zz_L → Prop} {I : zz_I} {L : zz_L} {x1 : Int32} (X : zz_X p s m meth c cX0_countHeads RX0 none 3) (hA : ∀ q, s.heap.size ≤ q → A q)   (h : zp_X0_countHeads_46  P x1 I L) : zz_Go p l e ({ frames := 2, cells := 0, slots := 0, locals := 47 } : Room) s m args below meth c 0 0 (MQ below (zz_Qv D ca zz_dC A a P) args s 0 0 A) D ca zz_dC A 3 46 a [] [(0, .ref (a 37)), (1, .int x1)] I L := by
  unfold zp_X0_countHeads_46 at h
  obtain ⟨Inv, μ, hv0, hs⟩ := h
  have key : ∀ (n9 : Nat) (y1 : Int32) (I8 : zz_I) (L8 : zz_L), μ y1 I8 L8 < n9 → Inv y1 I8 L8 → zz_Go p l e ({ frames := 2, cells := 0, slots := 0, locals := 47 } : Room) s m args below meth c 0 0 (MQ below (zz_Qv D ca zz_dC A a P) args s 0 0 A) D ca zz_dC A 3 46 a [] [(0, .ref (a 37)), (1, .int y1)] I8 L8 := by
    intro n9
    induction n9 with
    | zero => intro y1 I8 L8 hn; exact absurd hn (Nat.not_lt_zero _)
    | succ n9 ih =>
      intro y1 I8 L8 hn hi
      exact zq_X0_countHeads_46b (K46 := (fun z1 I7 L7 => Inv z1 I7 L7 ∧ μ z1 I7 L7 < μ y1 I8 L8)) X hA   (fun z1 I7 L7 hz => ih z1 I7 L7 (Nat.lt_of_lt_of_le hz.2 (Nat.le_of_lt_succ hn)) hz.1) (hs y1 I8 L8 hi)
  exact key _ x1 I L (Nat.lt_succ_self _) hv0
def zp_X0_countHeads_10b (K10 : Int32 → zz_I → zz_L → Prop) (P : zz_I → zz_L → Prop) (x1 : Int32) (I : zz_I) (L : zz_L) : Prop := ((I 37 7) ≤ x1 → zp_X0_countHeads_46 P (0 : Int32) I L) ∧ (¬ (I 37 7) ≤ x1 → zp_X0_isOpen (0 : Int32) x1 (fun r26 => (r26 = 0 → vp_in x1 200 ∧ (∀ L37 : zz_L, L37 = zz_up L 42 x1.toNatClampNeg (0 : Int64) → (∀ v38 : Int32, v38 = x1 + (1 : Int32) → (K10 v38 I L37)))) ∧ (¬ r26 = 0 → vp_in x1 200 ∧ (∀ L37 : zz_L, L37 = zz_up L 42 x1.toNatClampNeg (1 : Int64) → (∀ v38 : Int32, v38 = x1 + (1 : Int32) → (K10 v38 I L37))))) I L)
set_option maxHeartbeats 4000000 in
set_option maxRecDepth 100000 in
theorem zq_X0_countHeads_10b {p : Program} {l : Launch} {e : Env} {s : State} {m : MethodId} {args : Array Value} {below : List Frame} {meth : Method} {c : Code} {D : va_G} {ca : Nat → ClassId} {A : Nat → Prop} {a : Nat → Nat} {K10 : Int32 → zz_I → zz_L → Prop} {P : zz_I → zz_L → Prop} {I : zz_I} {L : zz_L} {x1 : Int32} (X : zz_X p s m meth c cX0_countHeads RX0 none 3) (hA : ∀ q, s.heap.size ≤ q → A q)  (hK10 : ∀ (y1 : Int32) (I8 : zz_I) (L8 : zz_L), K10 y1 I8 L8 → zz_Go p l e ({ frames := 2, cells := 0, slots := 0, locals := 47 } : Room) s m args below meth c 0 0 (MQ below (zz_Qv D ca zz_dC A a P) args s 0 0 A) D ca zz_dC A 3 10 a [] [(0, .ref (a 37)), (1, .int y1)] I8 L8) (h : zp_X0_countHeads_10b K10 P x1 I L) : zz_Go p l e ({ frames := 2, cells := 0, slots := 0, locals := 47 } : Room) s m args below meth c 0 0 (MQ below (zz_Qv D ca zz_dC A a P) args s 0 0 A) D ca zz_dC A 3 10 a [] [(0, .ref (a 37)), (1, .int x1)] I L := by
  obtain ⟨hx, hb, hml, hown, zw, hr, hlocks⟩ := id X
  intro H locs ls hB hl
  unfold zp_X0_countHeads_10b at h
  refine lv_iload_n hx hb dX0_countHeads_10 rfl (lv_at hl 1 rfl) ?_
  refine lv_aload_n hx hb dX0_countHeads_11 rfl (lv_at hl 0 rfl) ?_
  refine zz_geti hx hb hown zw hB zF_X0_35 zdC_37 rfl dX0_countHeads_12 ?_
  refine lv_icmp_ge (tgt := 44) hx hb dX0_countHeads_15 (by decide) (fun c15 => ?_) (fun c15 => ?_)
  · have h := h.1 c15
    refine lv_iconst (v := (0 : Int32)) hx hb dX0_countHeads_44 (by decide) ?_
    refine lv_istore_n (lv' := [(1, .int (0 : Int32)), (0, .ref (a 37))]) hx hb dX0_countHeads_45 rfl hl (by decide) rfl (fun ls hl => ?_)
    exact zq_X0_countHeads_46 X hA  h H locs ls hB (lv_sub hl [1, 0] rfl)
  · have h := h.2 c15
    refine lv_aload_n hx hb dX0_countHeads_18 rfl (lv_at hl 0 rfl) ?_
    refine zz_getr (k' := 42) hx hb hown zw hB zF_X0_24 zdC_37 rfl rfl dX0_countHeads_19 ?_
    refine lv_iload_n hx hb dX0_countHeads_22 rfl (lv_at hl 1 rfl) ?_
    refine lv_aload_n hx hb dX0_countHeads_23 rfl (lv_at hl 0 rfl) ?_
    refine lv_iconst (v := (0 : Int32)) hx hb dX0_countHeads_24 (by decide) ?_
    refine lv_iload_n hx hb dX0_countHeads_25 rfl (lv_at hl 1 rfl) ?_
    refine zz_goip hB hA (zz_runV (As := [.int (0 : Int32), .int x1]) (rest := [.int x1, .ref (a 42)]) hx hb hml hown zw hB zM_X0_106 (zc_X0_isOpen l D ca a I L H.size h) zdC_37 rfl rfl hl.1 rfl (Nat.le_of_ble_eq_true rfl) rfl rfl ⟨Nat.le_of_ble_eq_true rfl, Nat.le_of_ble_eq_true rfl⟩ dX0_countHeads_26 ⟨Nat.le_of_ble_eq_true rfl, Nat.le_of_ble_eq_true rfl⟩) (fun r26 H locs h hB => ?_)
    refine lv_if_eq (tgt := 36) hx hb dX0_countHeads_29 (by decide) (fun c29 => ?_) (fun c29 => ?_)
    · have h := h.1 c29
      refine lv_lconst (v := (0 : Int64)) hx hb dX0_countHeads_36 (by decide) ?_
      obtain ⟨hi37, h⟩ := h
      refine zz_last hx hb hB zdC_42 hi37 dX0_countHeads_37 (fun H locs hB => ?_)
      obtain ⟨L37, eL37⟩ : ∃ z : zz_L, z = zz_up L 42 x1.toNatClampNeg (0 : Int64) := ⟨_, rfl⟩
      rw [← eL37] at hB
      have h := h L37 eL37
      obtain ⟨v38, ev38⟩ : ∃ z : Int32, z = x1 + (1 : Int32) := ⟨_, rfl⟩
      have h := h v38 ev38
      refine lv_iinc (v := v38) (lv' := [(1, .int v38), (0, .ref (a 37))]) hx hb dX0_countHeads_38 hl (k := 1) rfl (by rw [ev38]; rfl) (by decide) rfl (fun ls hl => ?_)
      refine lv_goto (tgt := 10) hx hb dX0_countHeads_41 (by decide) ?_
      exact hK10 _ _ _ h H locs ls hB (lv_sub hl [1, 0] rfl)
    · have h := h.2 c29
      refine lv_lconst (v := (1 : Int64)) hx hb dX0_countHeads_32 (by decide) ?_
      refine lv_goto (tgt := 37) hx hb dX0_countHeads_33 (by decide) ?_
      obtain ⟨hi37, h⟩ := h
      refine zz_last hx hb hB zdC_42 hi37 dX0_countHeads_37 (fun H locs hB => ?_)
      obtain ⟨L37, eL37⟩ : ∃ z : zz_L, z = zz_up L 42 x1.toNatClampNeg (1 : Int64) := ⟨_, rfl⟩
      rw [← eL37] at hB
      have h := h L37 eL37
      obtain ⟨v38, ev38⟩ : ∃ z : Int32, z = x1 + (1 : Int32) := ⟨_, rfl⟩
      have h := h v38 ev38
      refine lv_iinc (v := v38) (lv' := [(1, .int v38), (0, .ref (a 37))]) hx hb dX0_countHeads_38 hl (k := 1) rfl (by rw [ev38]; rfl) (by decide) rfl (fun ls hl => ?_)
      refine lv_goto (tgt := 10) hx hb dX0_countHeads_41 (by decide) ?_
      exact hK10 _ _ _ h H locs ls hB (lv_sub hl [1, 0] rfl)
def zp_X0_countHeads_10  (P : zz_I → zz_L → Prop) (x1 : Int32) (I : zz_I) (L : zz_L) : Prop := ∃ (Inv : Int32 → zz_I → zz_L → Prop) (μ : Int32 → zz_I → zz_L → Nat), Inv x1 I L ∧ ∀ (y1 : Int32) (I8 : zz_I) (L8 : zz_L), Inv y1 I8 L8 → zp_X0_countHeads_10b  (fun z1 I7 L7 => Inv z1 I7 L7 ∧ μ z1 I7 L7 < μ y1 I8 L8) P y1 I8 L8
set_option maxHeartbeats 4000000 in
set_option maxRecDepth 100000 in
theorem zq_X0_countHeads_10 {p : Program} {l : Launch} {e : Env} {s : State} {m : MethodId} {args : Array Value} {below : List Frame} {meth : Method} {c : Code} {D : va_G} {ca : Nat → ClassId} {A : Nat → Prop} {a : Nat → Nat}  {P : zz_I → zz_L → Prop} {I : zz_I} {L : zz_L} {x1 : Int32} (X : zz_X p s m meth c cX0_countHeads RX0 none 3) (hA : ∀ q, s.heap.size ≤ q → A q)   (h : zp_X0_countHeads_10  P x1 I L) : zz_Go p l e ({ frames := 2, cells := 0, slots := 0, locals := 47 } : Room) s m args below meth c 0 0 (MQ below (zz_Qv D ca zz_dC A a P) args s 0 0 A) D ca zz_dC A 3 10 a [] [(0, .ref (a 37)), (1, .int x1)] I L := by
  unfold zp_X0_countHeads_10 at h
  obtain ⟨Inv, μ, hv0, hs⟩ := h
  have key : ∀ (n9 : Nat) (y1 : Int32) (I8 : zz_I) (L8 : zz_L), μ y1 I8 L8 < n9 → Inv y1 I8 L8 → zz_Go p l e ({ frames := 2, cells := 0, slots := 0, locals := 47 } : Room) s m args below meth c 0 0 (MQ below (zz_Qv D ca zz_dC A a P) args s 0 0 A) D ca zz_dC A 3 10 a [] [(0, .ref (a 37)), (1, .int y1)] I8 L8 := by
    intro n9
    induction n9 with
    | zero => intro y1 I8 L8 hn; exact absurd hn (Nat.not_lt_zero _)
    | succ n9 ih =>
      intro y1 I8 L8 hn hi
      exact zq_X0_countHeads_10b (K10 := (fun z1 I7 L7 => Inv z1 I7 L7 ∧ μ z1 I7 L7 < μ y1 I8 L8)) X hA   (fun z1 I7 L7 hz => ih z1 I7 L7 (Nat.lt_of_lt_of_le hz.2 (Nat.le_of_lt_succ hn)) hz.1) (hs y1 I8 L8 hi)
  exact key _ x1 I L (Nat.lt_succ_self _) hv0
def zp_X0_countHeads  (P : zz_I → zz_L → Prop) (I : zz_I) (L : zz_L) : Prop := zp_J7_fill_d0a16 42 200 (0 : Int64) (fun I5 L5 => zp_X0_countHeads_10 P (0 : Int32) I5 L5) I L
set_option maxHeartbeats 4000000 in
set_option maxRecDepth 100000 in
theorem zq_X0_countHeads {p : Program} {l : Launch} {e : Env} {s : State} {m : MethodId} {args : Array Value} {below : List Frame} {meth : Method} {c : Code} {D : va_G} {ca : Nat → ClassId} {A : Nat → Prop} {a : Nat → Nat}  {P : zz_I → zz_L → Prop} {I : zz_I} {L : zz_L}  (X : zz_X p s m meth c cX0_countHeads RX0 none 3) (hA : ∀ q, s.heap.size ≤ q → A q)   (h : zp_X0_countHeads  P I L) : zz_Go p l e ({ frames := 2, cells := 0, slots := 0, locals := 47 } : Room) s m args below meth c 0 0 (MQ below (zz_Qv D ca zz_dC A a P) args s 0 0 A) D ca zz_dC A 3 0 a [] [(0, .ref (a 37))] I L := by
  obtain ⟨hx, hb, hml, hown, zw, hr, hlocks⟩ := id X
  intro H locs ls hB hl
  unfold zp_X0_countHeads at h
  refine lv_aload_n hx hb dX0_countHeads_0 rfl (lv_at hl 0 rfl) ?_
  refine zz_getr (k' := 42) hx hb hown zw hB zF_X0_24 zdC_37 rfl rfl dX0_countHeads_1 ?_
  refine lv_lconst (v := (0 : Int64)) hx hb dX0_countHeads_4 (by decide) ?_
  refine zz_gov hB hA (zz_runS (As := [.ref (a 42), .long (0 : Int64)]) (rest := []) hx hb hml hown zw hB zM_X0_121 (zc_J7_fill_d0a16 l D ca a I L H.size zdC_42 h) rfl hl.1 rfl (Nat.le_of_ble_eq_true rfl) rfl rfl ⟨Nat.le_of_ble_eq_true rfl, Nat.le_of_ble_eq_true rfl⟩ dX0_countHeads_5 ⟨Nat.le_of_ble_eq_true rfl, Nat.le_of_ble_eq_true rfl⟩) (fun I5 L5 H locs h hB => ?_)
  refine lv_iconst (v := (0 : Int32)) hx hb dX0_countHeads_8 (by decide) ?_
  refine lv_istore_n (lv' := [(1, .int (0 : Int32)), (0, .ref (a 37))]) hx hb dX0_countHeads_9 rfl hl (by decide) rfl (fun ls hl => ?_)
  exact zq_X0_countHeads_10 X hA  h H locs ls hB (lv_sub hl [1, 0] rfl)
theorem zc_X0_countHeads (l : Launch) (D : va_G) (ca : Nat → ClassId) (a : Nat → Nat) (I : zz_I) (L : zz_L) (sz : Nat)  {P : zz_I → zz_L → Prop}  (h : zp_X0_countHeads  P I L) : Met l yX0_countHeads [.code yX0_countHeads cX0_countHeads 3 none] ({ frames := 2, cells := 0, slots := 0, locals := 47 } : Room) (zz_Pre D ca zz_dC [.ref (a 37)] a I L sz) (zz_Qv D ca zz_dC (zz_A ca zz_dC a I L sz) a P) 0 0 (zz_A ca zz_dC a I L sz) :=
  zz_start (by decide) (Nat.le_of_ble_eq_true rfl) (fun p e s m below meth c X hsz hA => zq_X0_countHeads X hA  h)
def zp_X0_select_94 (K45 : Int32 → zz_I → zz_L → Prop) (K54 : Int32 → zz_I → zz_L → Prop) (P : zz_I → zz_L → Prop) (x2 : Int32) (x4 : Int32) (x5 : Int32) (I : zz_I) (L : zz_L) : Prop := vp_in x4 25 ∧ (vp_in x4 25 ∧ (∀ I109 : zz_I, I109 = zz_up I 38 x4.toNatClampNeg ((I 38 x4.toNatClampNeg) &&& (((1 : Int32) <<< (x5 &&& 31)) ^^^ (-1 : Int32))) → (∀ v110 : Int32, v110 = x5 + (1 : Int32) → (K54 v110 I109 L))))
set_option maxHeartbeats 4000000 in
set_option maxRecDepth 100000 in
theorem zq_X0_select_94 {p : Program} {l : Launch} {e : Env} {s : State} {m : MethodId} {args : Array Value} {below : List Frame} {meth : Method} {c : Code} {D : va_G} {ca : Nat → ClassId} {A : Nat → Prop} {a : Nat → Nat} {K45 : Int32 → zz_I → zz_L → Prop} {K54 : Int32 → zz_I → zz_L → Prop} {P : zz_I → zz_L → Prop} {I : zz_I} {L : zz_L} {x2 : Int32} {x4 : Int32} {x5 : Int32} (X : zz_X p s m meth c cX0_select RX0 none 6) (hA : ∀ q, s.heap.size ≤ q → A q)  (hK45 : ∀ (y4 : Int32) (I8 : zz_I) (L8 : zz_L), K45 y4 I8 L8 → zz_Go p l e ({ frames := 1, cells := 0, slots := 0, locals := 22 } : Room) s m args below meth c 0 0 (MQ below (zz_Qv D ca zz_dC A a P) args s 0 0 A) D ca zz_dC A 6 45 a [] [(0, .ref (a 37)), (2, .int x2), (4, .int y4)] I8 L8) (hK54 : ∀ (y5 : Int32) (I8 : zz_I) (L8 : zz_L), K54 y5 I8 L8 → zz_Go p l e ({ frames := 1, cells := 0, slots := 0, locals := 22 } : Room) s m args below meth c 0 0 (MQ below (zz_Qv D ca zz_dC A a P) args s 0 0 A) D ca zz_dC A 6 54 a [] [(0, .ref (a 37)), (2, .int x2), (4, .int x4), (5, .int y5)] I8 L8) (h : zp_X0_select_94 K45 K54 P x2 x4 x5 I L) : zz_Go p l e ({ frames := 1, cells := 0, slots := 0, locals := 22 } : Room) s m args below meth c 0 0 (MQ below (zz_Qv D ca zz_dC A a P) args s 0 0 A) D ca zz_dC A 6 94 a [] [(0, .ref (a 37)), (2, .int x2), (4, .int x4), (5, .int x5)] I L := by
  obtain ⟨hx, hb, hml, hown, zw, hr, hlocks⟩ := id X
  intro H locs ls hB hl
  unfold zp_X0_select_94 at h
  refine lv_aload_n hx hb dX0_select_94 rfl (lv_at hl 0 rfl) ?_
  refine zz_getr (k' := 38) hx hb hown zw hB zF_X0_9 zdC_37 rfl rfl dX0_select_95 ?_
  refine lv_iload hx hb dX0_select_98 (lv_at hl 2 rfl) ?_
  refine lv_dup2_11 hx hb dX0_select_100 rfl rfl ?_
  obtain ⟨hi101, h⟩ := h
  refine zz_iald hx hb hB zdC_38 hi101 dX0_select_101 ?_
  refine lv_iconst (v := (1 : Int32)) hx hb dX0_select_102 (by decide) ?_
  refine lv_iload hx hb dX0_select_103 (lv_at hl 3 rfl) ?_
  refine lv_ishl hx hb dX0_select_105 ?_
  refine lv_iconst (v := (-1 : Int32)) hx hb dX0_select_106 (by decide) ?_
  refine lv_ixor hx hb dX0_select_107 ?_
  refine lv_iand hx hb dX0_select_108 ?_
  obtain ⟨hi109, h⟩ := h
  refine zz_iast hx hb hB zdC_38 hi109 dX0_select_109 (fun H locs hB => ?_)
  obtain ⟨I109, eI109⟩ : ∃ z : zz_I, z = zz_up I 38 x4.toNatClampNeg ((I 38 x4.toNatClampNeg) &&& (((1 : Int32) <<< (x5 &&& 31)) ^^^ (-1 : Int32))) := ⟨_, rfl⟩
  rw [← eI109] at hB
  have h := h I109 eI109
  obtain ⟨v110, ev110⟩ : ∃ z : Int32, z = x5 + (1 : Int32) := ⟨_, rfl⟩
  have h := h v110 ev110
  refine lv_iinc (v := v110) (lv' := [(5, .int v110), (0, .ref (a 37)), (2, .int x2), (4, .int x4)]) hx hb dX0_select_110 hl (k := 3) rfl (by rw [ev110]; rfl) (by decide) rfl (fun ls hl => ?_)
  refine lv_goto (tgt := 54) hx hb dX0_select_113 (by decide) ?_
  exact hK54 _ _ _ h H locs ls hB (lv_sub hl [1, 2, 3, 0] rfl)
def zp_X0_select_54b (K45 : Int32 → zz_I → zz_L → Prop) (K54 : Int32 → zz_I → zz_L → Prop) (P : zz_I → zz_L → Prop) (x2 : Int32) (x4 : Int32) (x5 : Int32) (I : zz_I) (L : zz_L) : Prop := ((I 37 7) ≤ x5 → ∀ v116 : Int32, v116 = x4 + (1 : Int32) → (K45 v116 I L)) ∧ (¬ (I 37 7) ≤ x5 → zp_X0_isOpen x4 x5 (fun r68 => (r68 = 0 → ∀ v110 : Int32, v110 = x5 + (1 : Int32) → (K54 v110 I L)) ∧ (¬ r68 = 0 → ((I 37 6) ≤ x2 → zp_X0_select_94 K45 K54 P x2 x4 x5 I L) ∧ (¬ (I 37 6) ≤ x2 → zp_X0_nextUnit x4 x5 (fun r87 => (r87 ≤ x2 → ∀ v110 : Int32, v110 = x5 + (1 : Int32) → (K54 v110 I L)) ∧ (¬ r87 ≤ x2 → zp_X0_select_94 K45 K54 P x2 x4 x5 I L)) I L))) I L)
set_option maxHeartbeats 4000000 in
set_option maxRecDepth 100000 in
theorem zq_X0_select_54b {p : Program} {l : Launch} {e : Env} {s : State} {m : MethodId} {args : Array Value} {below : List Frame} {meth : Method} {c : Code} {D : va_G} {ca : Nat → ClassId} {A : Nat → Prop} {a : Nat → Nat} {K45 : Int32 → zz_I → zz_L → Prop} {K54 : Int32 → zz_I → zz_L → Prop} {P : zz_I → zz_L → Prop} {I : zz_I} {L : zz_L} {x2 : Int32} {x4 : Int32} {x5 : Int32} (X : zz_X p s m meth c cX0_select RX0 none 6) (hA : ∀ q, s.heap.size ≤ q → A q)  (hK45 : ∀ (y4 : Int32) (I8 : zz_I) (L8 : zz_L), K45 y4 I8 L8 → zz_Go p l e ({ frames := 1, cells := 0, slots := 0, locals := 22 } : Room) s m args below meth c 0 0 (MQ below (zz_Qv D ca zz_dC A a P) args s 0 0 A) D ca zz_dC A 6 45 a [] [(0, .ref (a 37)), (2, .int x2), (4, .int y4)] I8 L8) (hK54 : ∀ (y5 : Int32) (I8 : zz_I) (L8 : zz_L), K54 y5 I8 L8 → zz_Go p l e ({ frames := 1, cells := 0, slots := 0, locals := 22 } : Room) s m args below meth c 0 0 (MQ below (zz_Qv D ca zz_dC A a P) args s 0 0 A) D ca zz_dC A 6 54 a [] [(0, .ref (a 37)), (2, .int x2), (4, .int x4), (5, .int y5)] I8 L8) (h : zp_X0_select_54b K45 K54 P x2 x4 x5 I L) : zz_Go p l e ({ frames := 1, cells := 0, slots := 0, locals := 22 } : Room) s m args below meth c 0 0 (MQ below (zz_Qv D ca zz_dC A a P) args s 0 0 A) D ca zz_dC A 6 54 a [] [(0, .ref (a 37)), (2, .int x2), (4, .int x4), (5, .int x5)] I L := by
  obtain ⟨hx, hb, hml, hown, zw, hr, hlocks⟩ := id X
  intro H locs ls hB hl
  unfold zp_X0_select_54b at h
  refine lv_iload hx hb dX0_select_54 (lv_at hl 3 rfl) ?_
  refine lv_aload_n hx hb dX0_select_56 rfl (lv_at hl 0 rfl) ?_
  refine zz_geti hx hb hown zw hB zF_X0_35 zdC_37 rfl dX0_select_57 ?_
  refine lv_icmp_ge (tgt := 116) hx hb dX0_select_60 (by decide) (fun c60 => ?_) (fun c60 => ?_)
  · have h := h.1 c60
    obtain ⟨v116, ev116⟩ : ∃ z : Int32, z = x4 + (1 : Int32) := ⟨_, rfl⟩
    have h := h v116 ev116
    refine lv_iinc (v := v116) (lv' := [(4, .int v116), (0, .ref (a 37)), (2, .int x2), (5, .int x5)]) hx hb dX0_select_116 hl (k := 2) rfl (by rw [ev116]; rfl) (by decide) rfl (fun ls hl => ?_)
    refine lv_goto (tgt := 45) hx hb dX0_select_119 (by decide) ?_
    exact hK45 _ _ _ h H locs ls hB (lv_sub hl [1, 2, 0] rfl)
  · have h := h.2 c60
    refine lv_aload_n hx hb dX0_select_63 rfl (lv_at hl 0 rfl) ?_
    refine lv_iload hx hb dX0_select_64 (lv_at hl 2 rfl) ?_
    refine lv_iload hx hb dX0_select_66 (lv_at hl 3 rfl) ?_
    refine zz_goip hB hA (zz_runV (As := [.int x4, .int x5]) (rest := []) hx hb hml hown zw hB zM_X0_106 (zc_X0_isOpen l D ca a I L H.size h) zdC_37 rfl rfl hl.1 rfl (Nat.le_of_ble_eq_true rfl) rfl rfl ⟨Nat.le_of_ble_eq_true rfl, Nat.le_of_ble_eq_true rfl⟩ dX0_select_68 ⟨Nat.le_of_ble_eq_true rfl, Nat.le_of_ble_eq_true rfl⟩) (fun r68 H locs h hB => ?_)
    refine lv_if_eq (tgt := 110) hx hb dX0_select_71 (by decide) (fun c71 => ?_) (fun c71 => ?_)
    · have h := h.1 c71
      obtain ⟨v110, ev110⟩ : ∃ z : Int32, z = x5 + (1 : Int32) := ⟨_, rfl⟩
      have h := h v110 ev110
      refine lv_iinc (v := v110) (lv' := [(5, .int v110), (0, .ref (a 37)), (2, .int x2), (4, .int x4)]) hx hb dX0_select_110 hl (k := 3) rfl (by rw [ev110]; rfl) (by decide) rfl (fun ls hl => ?_)
      refine lv_goto (tgt := 54) hx hb dX0_select_113 (by decide) ?_
      exact hK54 _ _ _ h H locs ls hB (lv_sub hl [1, 2, 3, 0] rfl)
    · have h := h.2 c71
      refine lv_iload_n hx hb dX0_select_74 rfl (lv_at hl 1 rfl) ?_
      refine lv_aload_n hx hb dX0_select_75 rfl (lv_at hl 0 rfl) ?_
      refine zz_geti hx hb hown zw hB zF_X0_31 zdC_37 rfl dX0_select_76 ?_
      refine lv_icmp_ge (tgt := 94) hx hb dX0_select_79 (by decide) (fun c79 => ?_) (fun c79 => ?_)
      · have h := h.1 c79
        exact zq_X0_select_94 X hA hK45 hK54 h H locs ls hB (lv_sub hl [0, 1, 2, 3] rfl)
      · have h := h.2 c79
        refine lv_aload_n hx hb dX0_select_82 rfl (lv_at hl 0 rfl) ?_
        refine lv_iload hx hb dX0_select_83 (lv_at hl 2 rfl) ?_
        refine lv_iload hx hb dX0_select_85 (lv_at hl 3 rfl) ?_
        refine zz_goip hB hA (zz_runV (As := [.int x4, .int x5]) (rest := []) hx hb hml hown zw hB zM_X0_110 (zc_X0_nextUnit l D ca a I L H.size h) zdC_37 rfl rfl hl.1 rfl (Nat.le_of_ble_eq_true rfl) rfl rfl ⟨Nat.le_of_ble_eq_true rfl, Nat.le_of_ble_eq_true rfl⟩ dX0_select_87 ⟨Nat.le_of_ble_eq_true rfl, Nat.le_of_ble_eq_true rfl⟩) (fun r87 H locs h hB => ?_)
        refine lv_iload_n hx hb dX0_select_90 rfl (lv_at hl 1 rfl) ?_
        refine lv_icmp_le (tgt := 110) hx hb dX0_select_91 (by decide) (fun c91 => ?_) (fun c91 => ?_)
        · have h := h.1 c91
          obtain ⟨v110, ev110⟩ : ∃ z : Int32, z = x5 + (1 : Int32) := ⟨_, rfl⟩
          have h := h v110 ev110
          refine lv_iinc (v := v110) (lv' := [(5, .int v110), (0, .ref (a 37)), (2, .int x2), (4, .int x4)]) hx hb dX0_select_110 hl (k := 3) rfl (by rw [ev110]; rfl) (by decide) rfl (fun ls hl => ?_)
          refine lv_goto (tgt := 54) hx hb dX0_select_113 (by decide) ?_
          exact hK54 _ _ _ h H locs ls hB (lv_sub hl [1, 2, 3, 0] rfl)
        · have h := h.2 c91
          exact zq_X0_select_94 X hA hK45 hK54 h H locs ls hB (lv_sub hl [0, 1, 2, 3] rfl)
def zp_X0_select_54 (K45 : Int32 → zz_I → zz_L → Prop) (P : zz_I → zz_L → Prop) (x2 : Int32) (x4 : Int32) (x5 : Int32) (I : zz_I) (L : zz_L) : Prop := ∃ (Inv : Int32 → zz_I → zz_L → Prop) (μ : Int32 → zz_I → zz_L → Nat), Inv x5 I L ∧ ∀ (y5 : Int32) (I8 : zz_I) (L8 : zz_L), Inv y5 I8 L8 → zp_X0_select_54b K45 (fun z5 I7 L7 => Inv z5 I7 L7 ∧ μ z5 I7 L7 < μ y5 I8 L8) P x2 x4 y5 I8 L8
set_option maxHeartbeats 4000000 in
set_option maxRecDepth 100000 in
theorem zq_X0_select_54 {p : Program} {l : Launch} {e : Env} {s : State} {m : MethodId} {args : Array Value} {below : List Frame} {meth : Method} {c : Code} {D : va_G} {ca : Nat → ClassId} {A : Nat → Prop} {a : Nat → Nat} {K45 : Int32 → zz_I → zz_L → Prop} {P : zz_I → zz_L → Prop} {I : zz_I} {L : zz_L} {x2 : Int32} {x4 : Int32} {x5 : Int32} (X : zz_X p s m meth c cX0_select RX0 none 6) (hA : ∀ q, s.heap.size ≤ q → A q)  (hK45 : ∀ (y4 : Int32) (I8 : zz_I) (L8 : zz_L), K45 y4 I8 L8 → zz_Go p l e ({ frames := 1, cells := 0, slots := 0, locals := 22 } : Room) s m args below meth c 0 0 (MQ below (zz_Qv D ca zz_dC A a P) args s 0 0 A) D ca zz_dC A 6 45 a [] [(0, .ref (a 37)), (2, .int x2), (4, .int y4)] I8 L8) (h : zp_X0_select_54 K45 P x2 x4 x5 I L) : zz_Go p l e ({ frames := 1, cells := 0, slots := 0, locals := 22 } : Room) s m args below meth c 0 0 (MQ below (zz_Qv D ca zz_dC A a P) args s 0 0 A) D ca zz_dC A 6 54 a [] [(0, .ref (a 37)), (2, .int x2), (4, .int x4), (5, .int x5)] I L := by
  unfold zp_X0_select_54 at h
  obtain ⟨Inv, μ, hv0, hs⟩ := h
  have key : ∀ (n9 : Nat) (y5 : Int32) (I8 : zz_I) (L8 : zz_L), μ y5 I8 L8 < n9 → Inv y5 I8 L8 → zz_Go p l e ({ frames := 1, cells := 0, slots := 0, locals := 22 } : Room) s m args below meth c 0 0 (MQ below (zz_Qv D ca zz_dC A a P) args s 0 0 A) D ca zz_dC A 6 54 a [] [(0, .ref (a 37)), (2, .int x2), (4, .int x4), (5, .int y5)] I8 L8 := by
    intro n9
    induction n9 with
    | zero => intro y5 I8 L8 hn; exact absurd hn (Nat.not_lt_zero _)
    | succ n9 ih =>
      intro y5 I8 L8 hn hi
      exact zq_X0_select_54b (K54 := (fun z5 I7 L7 => Inv z5 I7 L7 ∧ μ z5 I7 L7 < μ y5 I8 L8)) X hA  hK45 (fun z5 I7 L7 hz => ih z5 I7 L7 (Nat.lt_of_lt_of_le hz.2 (Nat.le_of_lt_succ hn)) hz.1) (hs y5 I8 L8 hi)
  exact key _ x5 I L (Nat.lt_succ_self _) hv0
def zp_X0_select_45b (K45 : Int32 → zz_I → zz_L → Prop) (P : zz_I → zz_L → Prop) (x2 : Int32) (x4 : Int32) (I : zz_I) (L : zz_L) : Prop := (x2 ≤ x4 → P I L) ∧ (¬ x2 ≤ x4 → zp_X0_select_54 K45 P x2 x4 (0 : Int32) I L)
set_option maxHeartbeats 4000000 in
set_option maxRecDepth 100000 in
theorem zq_X0_select_45b {p : Program} {l : Launch} {e : Env} {s : State} {m : MethodId} {args : Array Value} {below : List Frame} {meth : Method} {c : Code} {D : va_G} {ca : Nat → ClassId} {A : Nat → Prop} {a : Nat → Nat} {K45 : Int32 → zz_I → zz_L → Prop} {P : zz_I → zz_L → Prop} {I : zz_I} {L : zz_L} {x2 : Int32} {x4 : Int32} (X : zz_X p s m meth c cX0_select RX0 none 6) (hA : ∀ q, s.heap.size ≤ q → A q)  (hK45 : ∀ (y4 : Int32) (I8 : zz_I) (L8 : zz_L), K45 y4 I8 L8 → zz_Go p l e ({ frames := 1, cells := 0, slots := 0, locals := 22 } : Room) s m args below meth c 0 0 (MQ below (zz_Qv D ca zz_dC A a P) args s 0 0 A) D ca zz_dC A 6 45 a [] [(0, .ref (a 37)), (2, .int x2), (4, .int y4)] I8 L8) (h : zp_X0_select_45b K45 P x2 x4 I L) : zz_Go p l e ({ frames := 1, cells := 0, slots := 0, locals := 22 } : Room) s m args below meth c 0 0 (MQ below (zz_Qv D ca zz_dC A a P) args s 0 0 A) D ca zz_dC A 6 45 a [] [(0, .ref (a 37)), (2, .int x2), (4, .int x4)] I L := by
  obtain ⟨hx, hb, hml, hown, zw, hr, hlocks⟩ := id X
  intro H locs ls hB hl
  unfold zp_X0_select_45b at h
  refine lv_iload hx hb dX0_select_45 (lv_at hl 2 rfl) ?_
  refine lv_iload_n hx hb dX0_select_47 rfl (lv_at hl 1 rfl) ?_
  refine lv_icmp_ge (tgt := 122) hx hb dX0_select_48 (by decide) (fun c48 => ?_) (fun c48 => ?_)
  · have h := h.1 c48
    exact zz_vret hx hb hr hlocks hB h dX0_select_122
  · have h := h.2 c48
    refine lv_iconst (v := (0 : Int32)) hx hb dX0_select_51 (by decide) ?_
    refine lv_istore (lv' := [(5, .int (0 : Int32)), (0, .ref (a 37)), (2, .int x2), (4, .int x4)]) hx hb dX0_select_52 hl (by decide) rfl (fun ls hl => ?_)
    exact zq_X0_select_54 X hA hK45 h H locs ls hB (lv_sub hl [1, 2, 3, 0] rfl)
def zp_X0_select_45  (P : zz_I → zz_L → Prop) (x2 : Int32) (x4 : Int32) (I : zz_I) (L : zz_L) : Prop := ∃ (Inv : Int32 → zz_I → zz_L → Prop) (μ : Int32 → zz_I → zz_L → Nat), Inv x4 I L ∧ ∀ (y4 : Int32) (I8 : zz_I) (L8 : zz_L), Inv y4 I8 L8 → zp_X0_select_45b  (fun z4 I7 L7 => Inv z4 I7 L7 ∧ μ z4 I7 L7 < μ y4 I8 L8) P x2 y4 I8 L8
set_option maxHeartbeats 4000000 in
set_option maxRecDepth 100000 in
theorem zq_X0_select_45 {p : Program} {l : Launch} {e : Env} {s : State} {m : MethodId} {args : Array Value} {below : List Frame} {meth : Method} {c : Code} {D : va_G} {ca : Nat → ClassId} {A : Nat → Prop} {a : Nat → Nat}  {P : zz_I → zz_L → Prop} {I : zz_I} {L : zz_L} {x2 : Int32} {x4 : Int32} (X : zz_X p s m meth c cX0_select RX0 none 6) (hA : ∀ q, s.heap.size ≤ q → A q)   (h : zp_X0_select_45  P x2 x4 I L) : zz_Go p l e ({ frames := 1, cells := 0, slots := 0, locals := 22 } : Room) s m args below meth c 0 0 (MQ below (zz_Qv D ca zz_dC A a P) args s 0 0 A) D ca zz_dC A 6 45 a [] [(0, .ref (a 37)), (2, .int x2), (4, .int x4)] I L := by
  unfold zp_X0_select_45 at h
  obtain ⟨Inv, μ, hv0, hs⟩ := h
  have key : ∀ (n9 : Nat) (y4 : Int32) (I8 : zz_I) (L8 : zz_L), μ y4 I8 L8 < n9 → Inv y4 I8 L8 → zz_Go p l e ({ frames := 1, cells := 0, slots := 0, locals := 22 } : Room) s m args below meth c 0 0 (MQ below (zz_Qv D ca zz_dC A a P) args s 0 0 A) D ca zz_dC A 6 45 a [] [(0, .ref (a 37)), (2, .int x2), (4, .int y4)] I8 L8 := by
    intro n9
    induction n9 with
    | zero => intro y4 I8 L8 hn; exact absurd hn (Nat.not_lt_zero _)
    | succ n9 ih =>
      intro y4 I8 L8 hn hi
      exact zq_X0_select_45b (K45 := (fun z4 I7 L7 => Inv z4 I7 L7 ∧ μ z4 I7 L7 < μ y4 I8 L8)) X hA   (fun z4 I7 L7 hz => ih z4 I7 L7 (Nat.lt_of_lt_of_le hz.2 (Nat.le_of_lt_succ hn)) hz.1) (hs y4 I8 L8 hi)
  exact key _ x4 I L (Nat.lt_succ_self _) hv0
def zp_X0_select (x1 : Int32) (x2 : Int32) (x3 : Int32) (P : zz_I → zz_L → Prop) (I : zz_I) (L : zz_L) : Prop := (x2 < 0 → P I L) ∧ (¬ x2 < 0 → (x2 < (24 : Int32) → (¬ x3 = 0 → vp_in x2 25 ∧ (vp_in x2 25 ∧ (∀ I41 : zz_I, I41 = zz_up I 38 x2.toNatClampNeg ((I 38 x2.toNatClampNeg) &&& ((1 : Int32) <<< (x1 &&& 31))) → (zp_X0_select_45 P x2 (0 : Int32) I41 L)))) ∧ (x3 = 0 → vp_in x2 25 ∧ (vp_in x2 25 ∧ (∀ I28 : zz_I, I28 = zz_up I 38 x2.toNatClampNeg ((I 38 x2.toNatClampNeg) &&& (((1 : Int32) <<< (x1 &&& 31)) ^^^ (-1 : Int32))) → (P I28 L))))) ∧ (¬ x2 < (24 : Int32) → P I L))
set_option maxHeartbeats 4000000 in
set_option maxRecDepth 100000 in
theorem zq_X0_select {p : Program} {l : Launch} {e : Env} {s : State} {m : MethodId} {args : Array Value} {below : List Frame} {meth : Method} {c : Code} {D : va_G} {ca : Nat → ClassId} {A : Nat → Prop} {a : Nat → Nat}  {P : zz_I → zz_L → Prop} {I : zz_I} {L : zz_L} {x1 : Int32} {x2 : Int32} {x3 : Int32} (X : zz_X p s m meth c cX0_select RX0 none 6) (hA : ∀ q, s.heap.size ≤ q → A q)   (h : zp_X0_select x1 x2 x3 P I L) : zz_Go p l e ({ frames := 1, cells := 0, slots := 0, locals := 22 } : Room) s m args below meth c 0 0 (MQ below (zz_Qv D ca zz_dC A a P) args s 0 0 A) D ca zz_dC A 6 0 a [] [(0, .ref (a 37)), (1, .int x1), (2, .int x2), (3, .int x3)] I L := by
  obtain ⟨hx, hb, hml, hown, zw, hr, hlocks⟩ := id X
  intro H locs ls hB hl
  unfold zp_X0_select at h
  refine lv_iload_n hx hb dX0_select_0 rfl (lv_at hl 2 rfl) ?_
  refine lv_if_lt (tgt := 10) hx hb dX0_select_1 (by decide) (fun c1 => ?_) (fun c1 => ?_)
  · have h := h.1 c1
    exact zz_vret hx hb hr hlocks hB h dX0_select_10
  · have h := h.2 c1
    refine lv_iload_n hx hb dX0_select_4 rfl (lv_at hl 2 rfl) ?_
    refine lv_bipush (v := (24 : Int32)) hx hb dX0_select_5 (by decide) ?_
    refine lv_icmp_lt (tgt := 11) hx hb dX0_select_7 (by decide) (fun c7 => ?_) (fun c7 => ?_)
    · have h := h.1 c7
      refine lv_iload_n hx hb dX0_select_11 rfl (lv_at hl 3 rfl) ?_
      refine lv_if_ne (tgt := 30) hx hb dX0_select_12 (by decide) (fun c12 => ?_) (fun c12 => ?_)
      · have h := h.1 c12
        refine lv_aload_n hx hb dX0_select_30 rfl (lv_at hl 0 rfl) ?_
        refine zz_getr (k' := 38) hx hb hown zw hB zF_X0_9 zdC_37 rfl rfl dX0_select_31 ?_
        refine lv_iload_n hx hb dX0_select_34 rfl (lv_at hl 2 rfl) ?_
        refine lv_dup2_11 hx hb dX0_select_35 rfl rfl ?_
        obtain ⟨hi36, h⟩ := h
        refine zz_iald hx hb hB zdC_38 hi36 dX0_select_36 ?_
        refine lv_iconst (v := (1 : Int32)) hx hb dX0_select_37 (by decide) ?_
        refine lv_iload_n hx hb dX0_select_38 rfl (lv_at hl 1 rfl) ?_
        refine lv_ishl hx hb dX0_select_39 ?_
        refine lv_iand hx hb dX0_select_40 ?_
        obtain ⟨hi41, h⟩ := h
        refine zz_iast hx hb hB zdC_38 hi41 dX0_select_41 (fun H locs hB => ?_)
        obtain ⟨I41, eI41⟩ : ∃ z : zz_I, z = zz_up I 38 x2.toNatClampNeg ((I 38 x2.toNatClampNeg) &&& ((1 : Int32) <<< (x1 &&& 31))) := ⟨_, rfl⟩
        rw [← eI41] at hB
        have h := h I41 eI41
        refine lv_iconst (v := (0 : Int32)) hx hb dX0_select_42 (by decide) ?_
        refine lv_istore (lv' := [(4, .int (0 : Int32)), (0, .ref (a 37)), (1, .int x1), (2, .int x2), (3, .int x3)]) hx hb dX0_select_43 hl (by decide) rfl (fun ls hl => ?_)
        exact zq_X0_select_45 X hA  h H locs ls hB (lv_sub hl [1, 3, 0] rfl)
      · have h := h.2 c12
        refine lv_aload_n hx hb dX0_select_15 rfl (lv_at hl 0 rfl) ?_
        refine zz_getr (k' := 38) hx hb hown zw hB zF_X0_9 zdC_37 rfl rfl dX0_select_16 ?_
        refine lv_iload_n hx hb dX0_select_19 rfl (lv_at hl 2 rfl) ?_
        refine lv_dup2_11 hx hb dX0_select_20 rfl rfl ?_
        obtain ⟨hi21, h⟩ := h
        refine zz_iald hx hb hB zdC_38 hi21 dX0_select_21 ?_
        refine lv_iconst (v := (1 : Int32)) hx hb dX0_select_22 (by decide) ?_
        refine lv_iload_n hx hb dX0_select_23 rfl (lv_at hl 1 rfl) ?_
        refine lv_ishl hx hb dX0_select_24 ?_
        refine lv_iconst (v := (-1 : Int32)) hx hb dX0_select_25 (by decide) ?_
        refine lv_ixor hx hb dX0_select_26 ?_
        refine lv_iand hx hb dX0_select_27 ?_
        obtain ⟨hi28, h⟩ := h
        refine zz_iast hx hb hB zdC_38 hi28 dX0_select_28 (fun H locs hB => ?_)
        obtain ⟨I28, eI28⟩ : ∃ z : zz_I, z = zz_up I 38 x2.toNatClampNeg ((I 38 x2.toNatClampNeg) &&& (((1 : Int32) <<< (x1 &&& 31)) ^^^ (-1 : Int32))) := ⟨_, rfl⟩
        rw [← eI28] at hB
        have h := h I28 eI28
        exact zz_vret hx hb hr hlocks hB h dX0_select_29
    · have h := h.2 c7
      exact zz_vret hx hb hr hlocks hB h dX0_select_10
theorem zc_X0_select (l : Launch) (D : va_G) (ca : Nat → ClassId) (a : Nat → Nat) (I : zz_I) (L : zz_L) (sz : Nat) {x1 : Int32} {x2 : Int32} {x3 : Int32} {P : zz_I → zz_L → Prop}  (h : zp_X0_select x1 x2 x3 P I L) : Met l yX0_select [.code yX0_select cX0_select 6 none] ({ frames := 1, cells := 0, slots := 0, locals := 22 } : Room) (zz_Pre D ca zz_dC [.ref (a 37), .int x1, .int x2, .int x3] a I L sz) (zz_Qv D ca zz_dC (zz_A ca zz_dC a I L sz) a P) 0 0 (zz_A ca zz_dC a I L sz) :=
  zz_start (by decide) (Nat.le_of_ble_eq_true rfl) (fun p e s m below meth c X hsz hA => zq_X0_select X hA  h)
def zp_X0_countSelected_56  (P : Int64 → zz_I → zz_L → Prop) (k2 : Nat) (I : zz_I) (L : zz_L) : Prop := zp_X0_prune  (fun I57 L57 => zp_X0_countFrom (I57 37 8) (fun r65 I65 L65 => P r65 I65 L65) I57 L57) I L
set_option maxHeartbeats 4000000 in
set_option maxRecDepth 100000 in
theorem zq_X0_countSelected_56 {p : Program} {l : Launch} {e : Env} {s : State} {m : MethodId} {args : Array Value} {below : List Frame} {meth : Method} {c : Code} {D : va_G} {ca : Nat → ClassId} {A : Nat → Prop} {a : Nat → Nat}  {P : Int64 → zz_I → zz_L → Prop} {I : zz_I} {L : zz_L} {k2 : Nat} (X : zz_X p s m meth c cX0_countSelected RX0 (some .long) 5) (hA : ∀ q, s.heap.size ≤ q → A q) (hk2 : zz_isT k2)  (h : zp_X0_countSelected_56  P k2 I L) : zz_Go p l e ({ frames := 3, cells := 0, slots := 0, locals := 77 } : Room) s m args below meth c 0 0 (MQ below (zz_Ql D ca zz_dC A a P) args s 0 0 A) D ca zz_dC A 5 56 a [] [(0, .ref (a 37))] I L := by
  obtain ⟨hx, hb, hml, hown, zw, hr, hlocks⟩ := id X
  intro H locs ls hB hl
  unfold zp_X0_countSelected_56 at h
  refine lv_aload_n hx hb dX0_countSelected_56 rfl (lv_at hl 0 rfl) ?_
  refine zz_gov hB hA (zz_runV (As := []) (rest := []) hx hb hml hown zw hB zM_X0_45 (zc_X0_prune l D ca a I L H.size h) zdC_37 rfl rfl hl.1 rfl (Nat.le_of_ble_eq_true rfl) rfl rfl ⟨Nat.le_of_ble_eq_true rfl, Nat.le_of_ble_eq_true rfl⟩ dX0_countSelected_57 ⟨Nat.le_of_ble_eq_true rfl, Nat.le_of_ble_eq_true rfl⟩) (fun I57 L57 H locs h hB => ?_)
  refine lv_aload_n hx hb dX0_countSelected_60 rfl (lv_at hl 0 rfl) ?_
  refine lv_aload_n hx hb dX0_countSelected_61 rfl (lv_at hl 0 rfl) ?_
  refine zz_geti hx hb hown zw hB zF_X0_38 zdC_37 rfl dX0_countSelected_62 ?_
  refine zz_gol hB hA (zz_runV (As := [.int (I57 37 8)]) (rest := []) hx hb hml hown zw hB zM_X0_48 (zc_X0_countFrom l D ca a I57 L57 H.size h) zdC_37 rfl rfl hl.1 rfl (Nat.le_of_ble_eq_true rfl) rfl rfl ⟨Nat.le_of_ble_eq_true rfl, Nat.le_of_ble_eq_true rfl⟩ dX0_countSelected_65 ⟨Nat.le_of_ble_eq_true rfl, Nat.le_of_ble_eq_true rfl⟩) (fun r65 I65 L65 H locs h hB => ?_)
  exact zz_lret hx hb hr hlocks hB h dX0_countSelected_68
def zp_X0_countSelected_9b (K9 : Int32 → zz_I → zz_L → Prop) (P : Int64 → zz_I → zz_L → Prop) (k2 : Nat) (x4 : Int32) (I : zz_I) (L : zz_L) : Prop := ((I 33 3) ≤ x4 → zp_X0_countSelected_56 P k2 I L) ∧ (¬ (I 33 3) ≤ x4 → ((6 : Int32) ≤ x4 → zp_X0_countSelected_56 P k2 I L) ∧ (¬ (6 : Int32) ≤ x4 → vp_in x4 6 ∧ (vp_in x4 6 ∧ (vp_in x4 6 ∧ (zp_X0_select (I 34 x4.toNatClampNeg) (I 35 x4.toNatClampNeg) (I 36 x4.toNatClampNeg) (fun I47 L47 => ∀ v50 : Int32, v50 = x4 + (1 : Int32) → (K9 v50 I47 L47)) I L)))))
set_option maxHeartbeats 4000000 in
set_option maxRecDepth 100000 in
theorem zq_X0_countSelected_9b {p : Program} {l : Launch} {e : Env} {s : State} {m : MethodId} {args : Array Value} {below : List Frame} {meth : Method} {c : Code} {D : va_G} {ca : Nat → ClassId} {A : Nat → Prop} {a : Nat → Nat} {K9 : Int32 → zz_I → zz_L → Prop} {P : Int64 → zz_I → zz_L → Prop} {I : zz_I} {L : zz_L} {k2 : Nat} {x4 : Int32} (X : zz_X p s m meth c cX0_countSelected RX0 (some .long) 5) (hA : ∀ q, s.heap.size ≤ q → A q) (hk2 : zz_isT k2) (hK9 : ∀ (y4 : Int32) (I8 : zz_I) (L8 : zz_L), K9 y4 I8 L8 → zz_Go p l e ({ frames := 3, cells := 0, slots := 0, locals := 77 } : Room) s m args below meth c 0 0 (MQ below (zz_Ql D ca zz_dC A a P) args s 0 0 A) D ca zz_dC A 5 9 a [] [(0, .ref (a 37)), (3, .ref (a 33)), (4, .int y4)] I8 L8) (h : zp_X0_countSelected_9b K9 P k2 x4 I L) : zz_Go p l e ({ frames := 3, cells := 0, slots := 0, locals := 77 } : Room) s m args below meth c 0 0 (MQ below (zz_Ql D ca zz_dC A a P) args s 0 0 A) D ca zz_dC A 5 9 a [] [(0, .ref (a 37)), (3, .ref (a 33)), (4, .int x4)] I L := by
  obtain ⟨hx, hb, hml, hown, zw, hr, hlocks⟩ := id X
  intro H locs ls hB hl
  unfold zp_X0_countSelected_9b at h
  refine lv_iload hx hb dX0_countSelected_9 (lv_at hl 2 rfl) ?_
  refine lv_aload_n hx hb dX0_countSelected_11 rfl (lv_at hl 1 rfl) ?_
  refine zz_geti hx hb hown zw hB zF_X0_52 zdC_33 rfl dX0_countSelected_12 ?_
  refine lv_icmp_ge (tgt := 56) hx hb dX0_countSelected_15 (by decide) (fun c15 => ?_) (fun c15 => ?_)
  · have h := h.1 c15
    exact zq_X0_countSelected_56 X hA hk2 h H locs ls hB (lv_sub hl [0] rfl)
  · have h := h.2 c15
    refine lv_iload hx hb dX0_countSelected_18 (lv_at hl 2 rfl) ?_
    refine lv_bipush (v := (6 : Int32)) hx hb dX0_countSelected_20 (by decide) ?_
    refine lv_icmp_ge (tgt := 56) hx hb dX0_countSelected_22 (by decide) (fun c22 => ?_) (fun c22 => ?_)
    · have h := h.1 c22
      exact zq_X0_countSelected_56 X hA hk2 h H locs ls hB (lv_sub hl [0] rfl)
    · have h := h.2 c22
      refine lv_aload_n hx hb dX0_countSelected_25 rfl (lv_at hl 0 rfl) ?_
      refine lv_aload_n hx hb dX0_countSelected_26 rfl (lv_at hl 1 rfl) ?_
      refine zz_getr (k' := 34) hx hb hown zw hB zF_X0_57 zdC_33 rfl rfl dX0_countSelected_27 ?_
      refine lv_iload hx hb dX0_countSelected_30 (lv_at hl 2 rfl) ?_
      obtain ⟨hi32, h⟩ := h
      refine zz_iald hx hb hB zdC_34 hi32 dX0_countSelected_32 ?_
      refine lv_aload_n hx hb dX0_countSelected_33 rfl (lv_at hl 1 rfl) ?_
      refine zz_getr (k' := 35) hx hb hown zw hB zF_X0_59 zdC_33 rfl rfl dX0_countSelected_34 ?_
      refine lv_iload hx hb dX0_countSelected_37 (lv_at hl 2 rfl) ?_
      obtain ⟨hi39, h⟩ := h
      refine zz_iald hx hb hB zdC_35 hi39 dX0_countSelected_39 ?_
      refine lv_aload_n hx hb dX0_countSelected_40 rfl (lv_at hl 1 rfl) ?_
      refine zz_getr (k' := 36) hx hb hown zw hB zF_X0_61 zdC_33 rfl rfl dX0_countSelected_41 ?_
      refine lv_iload hx hb dX0_countSelected_44 (lv_at hl 2 rfl) ?_
      obtain ⟨hi46, h⟩ := h
      refine zz_zald hx hb hB zdC_36 hi46 dX0_countSelected_46 ?_
      refine zz_gov hB hA (zz_runV (As := [.int (I 34 x4.toNatClampNeg), .int (I 35 x4.toNatClampNeg), .int (I 36 x4.toNatClampNeg)]) (rest := []) hx hb hml hown zw hB zM_X0_65 (zc_X0_select l D ca a I L H.size h) zdC_37 rfl rfl hl.1 rfl (Nat.le_of_ble_eq_true rfl) rfl rfl ⟨Nat.le_of_ble_eq_true rfl, Nat.le_of_ble_eq_true rfl⟩ dX0_countSelected_47 ⟨Nat.le_of_ble_eq_true rfl, Nat.le_of_ble_eq_true rfl⟩) (fun I47 L47 H locs h hB => ?_)
      obtain ⟨v50, ev50⟩ : ∃ z : Int32, z = x4 + (1 : Int32) := ⟨_, rfl⟩
      have h := h v50 ev50
      refine lv_iinc (v := v50) (lv' := [(4, .int v50), (0, .ref (a 37)), (3, .ref (a 33))]) hx hb dX0_countSelected_50 hl (k := 2) rfl (by rw [ev50]; rfl) (by decide) rfl (fun ls hl => ?_)
      refine lv_goto (tgt := 9) hx hb dX0_countSelected_53 (by decide) ?_
      exact hK9 _ _ _ h H locs ls hB (lv_sub hl [1, 2, 0] rfl)
def zp_X0_countSelected_9  (P : Int64 → zz_I → zz_L → Prop) (k2 : Nat) (x4 : Int32) (I : zz_I) (L : zz_L) : Prop := ∃ (Inv : Int32 → zz_I → zz_L → Prop) (μ : Int32 → zz_I → zz_L → Nat), Inv x4 I L ∧ ∀ (y4 : Int32) (I8 : zz_I) (L8 : zz_L), Inv y4 I8 L8 → zp_X0_countSelected_9b  (fun z4 I7 L7 => Inv z4 I7 L7 ∧ μ z4 I7 L7 < μ y4 I8 L8) P k2 y4 I8 L8
set_option maxHeartbeats 4000000 in
set_option maxRecDepth 100000 in
theorem zq_X0_countSelected_9 {p : Program} {l : Launch} {e : Env} {s : State} {m : MethodId} {args : Array Value} {below : List Frame} {meth : Method} {c : Code} {D : va_G} {ca : Nat → ClassId} {A : Nat → Prop} {a : Nat → Nat}  {P : Int64 → zz_I → zz_L → Prop} {I : zz_I} {L : zz_L} {k2 : Nat} {x4 : Int32} (X : zz_X p s m meth c cX0_countSelected RX0 (some .long) 5) (hA : ∀ q, s.heap.size ≤ q → A q) (hk2 : zz_isT k2)  (h : zp_X0_countSelected_9  P k2 x4 I L) : zz_Go p l e ({ frames := 3, cells := 0, slots := 0, locals := 77 } : Room) s m args below meth c 0 0 (MQ below (zz_Ql D ca zz_dC A a P) args s 0 0 A) D ca zz_dC A 5 9 a [] [(0, .ref (a 37)), (3, .ref (a 33)), (4, .int x4)] I L := by
  unfold zp_X0_countSelected_9 at h
  obtain ⟨Inv, μ, hv0, hs⟩ := h
  have key : ∀ (n9 : Nat) (y4 : Int32) (I8 : zz_I) (L8 : zz_L), μ y4 I8 L8 < n9 → Inv y4 I8 L8 → zz_Go p l e ({ frames := 3, cells := 0, slots := 0, locals := 77 } : Room) s m args below meth c 0 0 (MQ below (zz_Ql D ca zz_dC A a P) args s 0 0 A) D ca zz_dC A 5 9 a [] [(0, .ref (a 37)), (3, .ref (a 33)), (4, .int y4)] I8 L8 := by
    intro n9
    induction n9 with
    | zero => intro y4 I8 L8 hn; exact absurd hn (Nat.not_lt_zero _)
    | succ n9 ih =>
      intro y4 I8 L8 hn hi
      exact zq_X0_countSelected_9b (K9 := (fun z4 I7 L7 => Inv z4 I7 L7 ∧ μ z4 I7 L7 < μ y4 I8 L8)) X hA hk2  (fun z4 I7 L7 hz => ih z4 I7 L7 (Nat.lt_of_lt_of_le hz.2 (Nat.le_of_lt_succ hn)) hz.1) (hs y4 I8 L8 hi)
  exact key _ x4 I L (Nat.lt_succ_self _) hv0
def zp_X0_countSelected (k2 : Nat) (P : Int64 → zz_I → zz_L → Prop) (I : zz_I) (L : zz_L) : Prop := zp_X0_lay k2 (fun I3 L3 => zp_X0_countSelected_9 P k2 (0 : Int32) I3 L3) I L
set_option maxHeartbeats 4000000 in
set_option maxRecDepth 100000 in
theorem zq_X0_countSelected {p : Program} {l : Launch} {e : Env} {s : State} {m : MethodId} {args : Array Value} {below : List Frame} {meth : Method} {c : Code} {D : va_G} {ca : Nat → ClassId} {A : Nat → Prop} {a : Nat → Nat}  {P : Int64 → zz_I → zz_L → Prop} {I : zz_I} {L : zz_L} {k2 : Nat} (X : zz_X p s m meth c cX0_countSelected RX0 (some .long) 5) (hA : ∀ q, s.heap.size ≤ q → A q) (hk2 : zz_isT k2)  (h : zp_X0_countSelected k2 P I L) : zz_Go p l e ({ frames := 3, cells := 0, slots := 0, locals := 77 } : Room) s m args below meth c 0 0 (MQ below (zz_Ql D ca zz_dC A a P) args s 0 0 A) D ca zz_dC A 5 0 a [] [(0, .ref (a 37)), (1, .ref (a 14)), (2, .ref (a k2)), (3, .ref (a 33))] I L := by
  obtain ⟨hx, hb, hml, hown, zw, hr, hlocks⟩ := id X
  intro H locs ls hB hl
  unfold zp_X0_countSelected at h
  refine lv_aload_n hx hb dX0_countSelected_0 rfl (lv_at hl 0 rfl) ?_
  refine lv_aload_n hx hb dX0_countSelected_1 rfl (lv_at hl 1 rfl) ?_
  refine lv_aload_n hx hb dX0_countSelected_2 rfl (lv_at hl 2 rfl) ?_
  refine zz_gov hB hA (zz_runV (As := [.ref (a 14), .ref (a k2)]) (rest := []) hx hb hml hown zw hB zM_X0_41 (zc_X0_lay l D ca a I L H.size hk2 h) zdC_37 rfl rfl hl.1 rfl (Nat.le_of_ble_eq_true rfl) rfl rfl ⟨Nat.le_of_ble_eq_true rfl, Nat.le_of_ble_eq_true rfl⟩ dX0_countSelected_3 ⟨Nat.le_of_ble_eq_true rfl, Nat.le_of_ble_eq_true rfl⟩) (fun I3 L3 H locs h hB => ?_)
  refine lv_iconst (v := (0 : Int32)) hx hb dX0_countSelected_6 (by decide) ?_
  refine lv_istore (lv' := [(4, .int (0 : Int32)), (0, .ref (a 37)), (1, .ref (a 14)), (2, .ref (a k2)), (3, .ref (a 33))]) hx hb dX0_countSelected_7 hl (by decide) rfl (fun ls hl => ?_)
  exact zq_X0_countSelected_9 X hA hk2 h H locs ls hB (lv_sub hl [1, 4, 0] rfl)
theorem zc_X0_countSelected (l : Launch) (D : va_G) (ca : Nat → ClassId) (a : Nat → Nat) (I : zz_I) (L : zz_L) (sz : Nat) {k2 : Nat} {P : Int64 → zz_I → zz_L → Prop} (hk2 : zz_isT k2) (h : zp_X0_countSelected k2 P I L) : Met l yX0_countSelected [.code yX0_countSelected cX0_countSelected 5 (some .long)] ({ frames := 3, cells := 0, slots := 0, locals := 77 } : Room) (zz_Pre D ca zz_dC [.ref (a 37), .ref (a 14), .ref (a k2), .ref (a 33)] a I L sz) (zz_Ql D ca zz_dC (zz_A ca zz_dC a I L sz) a P) 0 0 (zz_A ca zz_dC a I L sz) :=
  zz_start (by decide) (Nat.le_of_ble_eq_true rfl) (fun p e s m below meth c X hsz hA => zq_X0_countSelected X hA hk2 h)
def zp_X2_signBehind_16b (K16 : Int32 → Int32 → Prop) (P : Int32 → Prop) (x1 : Int32) (x2 : Int32) (x3 : Int32) (x4 : Int32) (I : zz_I) (L : zz_L) : Prop := vp_in x1 8 ∧ (((I 17 x1.toNatClampNeg) ≤ x4 → (¬ x3 = x2 → P (-9 : Int32)) ∧ (x3 = x2 → P (6 : Int32))) ∧ (¬ (I 17 x1.toNatClampNeg) ≤ x4 → zp_X2_letterOf x1 x4 (fun r31 => (¬ x3 = x2 → zp_X2_widthOf 14 r31 (fun r48 => ∀ v52 : Int32, v52 = x3 + r48 → (∀ v53 : Int32, v53 = x4 + (1 : Int32) → (K16 v52 v53))) I L) ∧ (x3 = x2 → P r31)) I L))
set_option maxHeartbeats 4000000 in
set_option maxRecDepth 100000 in
theorem zq_X2_signBehind_16b {p : Program} {l : Launch} {e : Env} {s : State} {m : MethodId} {args : Array Value} {below : List Frame} {meth : Method} {c : Code} {D : va_G} {ca : Nat → ClassId} {A : Nat → Prop} {a : Nat → Nat} {K16 : Int32 → Int32 → Prop} {P : Int32 → Prop} {I : zz_I} {L : zz_L} {x1 : Int32} {x2 : Int32} {x3 : Int32} {x4 : Int32} (X : zz_X p s m meth c cX2_signBehind RX2 (some .int) 6) (hA : ∀ q, s.heap.size ≤ q → A q)  (hK16 : ∀ (y3 : Int32) (y4 : Int32), K16 y3 y4 → zz_Go p l e ({ frames := 1, cells := 0, slots := 0, locals := 23 } : Room) s m args below meth c 0 0 (MQ below (zz_Qi D ca zz_dC A a (fun r I9 L9 => P r ∧ I9 = I ∧ L9 = L)) args s 0 0 A) D ca zz_dC A 6 16 a [] [(0, .ref (a 14)), (1, .int x1), (2, .int x2), (3, .int y3), (4, .int y4)] I L) (h : zp_X2_signBehind_16b K16 P x1 x2 x3 x4 I L) : zz_Go p l e ({ frames := 1, cells := 0, slots := 0, locals := 23 } : Room) s m args below meth c 0 0 (MQ below (zz_Qi D ca zz_dC A a (fun r I9 L9 => P r ∧ I9 = I ∧ L9 = L)) args s 0 0 A) D ca zz_dC A 6 16 a [] [(0, .ref (a 14)), (1, .int x1), (2, .int x2), (3, .int x3), (4, .int x4)] I L := by
  obtain ⟨hx, hb, hml, hown, zw, hr, hlocks⟩ := id X
  intro H locs ls hB hl
  unfold zp_X2_signBehind_16b at h
  refine lv_iload hx hb dX2_signBehind_16 (lv_at hl 4 rfl) ?_
  refine lv_aload_n hx hb dX2_signBehind_18 rfl (lv_at hl 0 rfl) ?_
  refine zz_getr (k' := 17) hx hb hown zw hB zF_X2_18 zdC_14 rfl rfl dX2_signBehind_19 ?_
  refine lv_iload_n hx hb dX2_signBehind_22 rfl (lv_at hl 1 rfl) ?_
  obtain ⟨hi23, h⟩ := h
  refine zz_iald hx hb hB zdC_17 hi23 dX2_signBehind_23 ?_
  refine lv_icmp_ge (tgt := 59) hx hb dX2_signBehind_24 (by decide) (fun c24 => ?_) (fun c24 => ?_)
  · have h := h.1 c24
    refine lv_iload_n hx hb dX2_signBehind_59 rfl (lv_at hl 3 rfl) ?_
    refine lv_iload_n hx hb dX2_signBehind_60 rfl (lv_at hl 2 rfl) ?_
    refine lv_icmp_ne (tgt := 69) hx hb dX2_signBehind_61 (by decide) (fun c61 => ?_) (fun c61 => ?_)
    · have h := h.1 c61
      refine lv_bipush (v := (-9 : Int32)) hx hb dX2_signBehind_69 (by decide) ?_
      exact zz_iret hx hb hr hlocks hB ⟨h, rfl, rfl⟩ dX2_signBehind_71
    · have h := h.2 c61
      refine lv_bipush (v := (6 : Int32)) hx hb dX2_signBehind_64 (by decide) ?_
      refine lv_goto (tgt := 71) hx hb dX2_signBehind_66 (by decide) ?_
      exact zz_iret hx hb hr hlocks hB ⟨h, rfl, rfl⟩ dX2_signBehind_71
  · have h := h.2 c24
    refine lv_aload_n hx hb dX2_signBehind_27 rfl (lv_at hl 0 rfl) ?_
    refine lv_iload_n hx hb dX2_signBehind_28 rfl (lv_at hl 1 rfl) ?_
    refine lv_iload hx hb dX2_signBehind_29 (lv_at hl 4 rfl) ?_
    refine zz_goip hB hA (zz_runV (As := [.int x1, .int x4]) (rest := []) hx hb hml hown zw hB zM_X2_50 (zc_X2_letterOf l D ca a I L H.size h) zdC_14 rfl rfl hl.1 rfl (Nat.le_of_ble_eq_true rfl) rfl rfl ⟨Nat.le_of_ble_eq_true rfl, Nat.le_of_ble_eq_true rfl⟩ dX2_signBehind_31 ⟨Nat.le_of_ble_eq_true rfl, Nat.le_of_ble_eq_true rfl⟩) (fun r31 H locs h hB => ?_)
    refine lv_istore (lv' := [(5, .int r31), (0, .ref (a 14)), (1, .int x1), (2, .int x2), (3, .int x3), (4, .int x4)]) hx hb dX2_signBehind_34 hl (by decide) rfl (fun ls hl => ?_)
    refine lv_iload_n hx hb dX2_signBehind_36 rfl (lv_at hl 4 rfl) ?_
    refine lv_iload_n hx hb dX2_signBehind_37 rfl (lv_at hl 3 rfl) ?_
    refine lv_icmp_ne (tgt := 44) hx hb dX2_signBehind_38 (by decide) (fun c38 => ?_) (fun c38 => ?_)
    · have h := h.1 c38
      refine lv_iload_n hx hb dX2_signBehind_44 rfl (lv_at hl 4 rfl) ?_
      refine lv_aload_n hx hb dX2_signBehind_45 rfl (lv_at hl 1 rfl) ?_
      refine lv_iload hx hb dX2_signBehind_46 (lv_at hl 0 rfl) ?_
      refine zz_goip hB hA (zz_runV (As := [.int r31]) (rest := [.int x3]) hx hb hml hown zw hB zM_X2_54 (zc_X2_widthOf l D ca a I L H.size zz_isX_14 h) zdC_14 rfl rfl hl.1 rfl (Nat.le_of_ble_eq_true rfl) rfl rfl ⟨Nat.le_of_ble_eq_true rfl, Nat.le_of_ble_eq_true rfl⟩ dX2_signBehind_48 ⟨Nat.le_of_ble_eq_true rfl, Nat.le_of_ble_eq_true rfl⟩) (fun r48 H locs h hB => ?_)
      refine lv_iadd hx hb dX2_signBehind_51 ?_
      refine lv_topi (fun v52 ev52 => ?_)
      have h := h v52 ev52
      refine lv_istore_n (lv' := [(3, .int v52), (5, .int r31), (0, .ref (a 14)), (1, .int x1), (2, .int x2), (4, .int x4)]) hx hb dX2_signBehind_52 rfl hl (by decide) rfl (fun ls hl => ?_)
      obtain ⟨v53, ev53⟩ : ∃ z : Int32, z = x4 + (1 : Int32) := ⟨_, rfl⟩
      have h := h v53 ev53
      refine lv_iinc (v := v53) (lv' := [(4, .int v53), (3, .int v52), (5, .int r31), (0, .ref (a 14)), (1, .int x1), (2, .int x2)]) hx hb dX2_signBehind_53 hl (k := 5) rfl (by rw [ev53]; rfl) (by decide) rfl (fun ls hl => ?_)
      refine lv_goto (tgt := 16) hx hb dX2_signBehind_56 (by decide) ?_
      exact hK16 _ _ h H locs ls hB (lv_sub hl [3, 4, 5, 1, 0] rfl)
    · have h := h.2 c38
      refine lv_iload hx hb dX2_signBehind_41 (lv_at hl 0 rfl) ?_
      exact zz_iret hx hb hr hlocks hB ⟨h, rfl, rfl⟩ dX2_signBehind_43
def zp_X2_signBehind_16  (P : Int32 → Prop) (x1 : Int32) (x2 : Int32) (x3 : Int32) (x4 : Int32) (I : zz_I) (L : zz_L) : Prop := ∃ (Inv : Int32 → Int32 → Prop) (μ : Int32 → Int32 → Nat), Inv x3 x4 ∧ ∀ (y3 : Int32) (y4 : Int32), Inv y3 y4 → zp_X2_signBehind_16b  (fun z3 z4 => Inv z3 z4 ∧ μ z3 z4 < μ y3 y4) P x1 x2 y3 y4 I L
set_option maxHeartbeats 4000000 in
set_option maxRecDepth 100000 in
theorem zq_X2_signBehind_16 {p : Program} {l : Launch} {e : Env} {s : State} {m : MethodId} {args : Array Value} {below : List Frame} {meth : Method} {c : Code} {D : va_G} {ca : Nat → ClassId} {A : Nat → Prop} {a : Nat → Nat}  {P : Int32 → Prop} {I : zz_I} {L : zz_L} {x1 : Int32} {x2 : Int32} {x3 : Int32} {x4 : Int32} (X : zz_X p s m meth c cX2_signBehind RX2 (some .int) 6) (hA : ∀ q, s.heap.size ≤ q → A q)   (h : zp_X2_signBehind_16  P x1 x2 x3 x4 I L) : zz_Go p l e ({ frames := 1, cells := 0, slots := 0, locals := 23 } : Room) s m args below meth c 0 0 (MQ below (zz_Qi D ca zz_dC A a (fun r I9 L9 => P r ∧ I9 = I ∧ L9 = L)) args s 0 0 A) D ca zz_dC A 6 16 a [] [(0, .ref (a 14)), (1, .int x1), (2, .int x2), (3, .int x3), (4, .int x4)] I L := by
  unfold zp_X2_signBehind_16 at h
  obtain ⟨Inv, μ, hv0, hs⟩ := h
  have key : ∀ (n9 : Nat) (y3 : Int32) (y4 : Int32), μ y3 y4 < n9 → Inv y3 y4 → zz_Go p l e ({ frames := 1, cells := 0, slots := 0, locals := 23 } : Room) s m args below meth c 0 0 (MQ below (zz_Qi D ca zz_dC A a (fun r I9 L9 => P r ∧ I9 = I ∧ L9 = L)) args s 0 0 A) D ca zz_dC A 6 16 a [] [(0, .ref (a 14)), (1, .int x1), (2, .int x2), (3, .int y3), (4, .int y4)] I L := by
    intro n9
    induction n9 with
    | zero => intro y3 y4 hn; exact absurd hn (Nat.not_lt_zero _)
    | succ n9 ih =>
      intro y3 y4 hn hi
      exact zq_X2_signBehind_16b (K16 := (fun z3 z4 => Inv z3 z4 ∧ μ z3 z4 < μ y3 y4)) X hA   (fun z3 z4 hz => ih z3 z4 (Nat.lt_of_lt_of_le hz.2 (Nat.le_of_lt_succ hn)) hz.1) (hs y3 y4 hi)
  exact key _ x3 x4 (Nat.lt_succ_self _) hv0
def zp_X2_signBehind (x1 : Int32) (x2 : Int32) (P : Int32 → Prop) (I : zz_I) (L : zz_L) : Prop := zp_X2_hasWord x1 (fun r2 => (¬ r2 = 0 → zp_X2_signBehind_16 P x1 x2 (0 : Int32) (0 : Int32) I L) ∧ (r2 = 0 → P (-9 : Int32))) I L
set_option maxHeartbeats 4000000 in
set_option maxRecDepth 100000 in
theorem zq_X2_signBehind {p : Program} {l : Launch} {e : Env} {s : State} {m : MethodId} {args : Array Value} {below : List Frame} {meth : Method} {c : Code} {D : va_G} {ca : Nat → ClassId} {A : Nat → Prop} {a : Nat → Nat}  {P : Int32 → Prop} {I : zz_I} {L : zz_L} {x1 : Int32} {x2 : Int32} (X : zz_X p s m meth c cX2_signBehind RX2 (some .int) 6) (hA : ∀ q, s.heap.size ≤ q → A q)   (h : zp_X2_signBehind x1 x2 P I L) : zz_Go p l e ({ frames := 1, cells := 0, slots := 0, locals := 23 } : Room) s m args below meth c 0 0 (MQ below (zz_Qi D ca zz_dC A a (fun r I9 L9 => P r ∧ I9 = I ∧ L9 = L)) args s 0 0 A) D ca zz_dC A 6 0 a [] [(0, .ref (a 14)), (1, .int x1), (2, .int x2)] I L := by
  obtain ⟨hx, hb, hml, hown, zw, hr, hlocks⟩ := id X
  intro H locs ls hB hl
  unfold zp_X2_signBehind at h
  refine lv_aload_n hx hb dX2_signBehind_0 rfl (lv_at hl 0 rfl) ?_
  refine lv_iload_n hx hb dX2_signBehind_1 rfl (lv_at hl 1 rfl) ?_
  refine zz_goip hB hA (zz_runV (As := [.int x1]) (rest := []) hx hb hml hown zw hB zM_X2_46 (zc_X2_hasWord l D ca a I L H.size h) zdC_14 rfl rfl hl.1 rfl (Nat.le_of_ble_eq_true rfl) rfl rfl ⟨Nat.le_of_ble_eq_true rfl, Nat.le_of_ble_eq_true rfl⟩ dX2_signBehind_2 ⟨Nat.le_of_ble_eq_true rfl, Nat.le_of_ble_eq_true rfl⟩) (fun r2 H locs h hB => ?_)
  refine lv_if_ne (tgt := 11) hx hb dX2_signBehind_5 (by decide) (fun c5 => ?_) (fun c5 => ?_)
  · have h := h.1 c5
    refine lv_iconst (v := (0 : Int32)) hx hb dX2_signBehind_11 (by decide) ?_
    refine lv_istore_n (lv' := [(3, .int (0 : Int32)), (0, .ref (a 14)), (1, .int x1), (2, .int x2)]) hx hb dX2_signBehind_12 rfl hl (by decide) rfl (fun ls hl => ?_)
    refine lv_iconst (v := (0 : Int32)) hx hb dX2_signBehind_13 (by decide) ?_
    refine lv_istore (lv' := [(4, .int (0 : Int32)), (3, .int (0 : Int32)), (0, .ref (a 14)), (1, .int x1), (2, .int x2)]) hx hb dX2_signBehind_14 hl (by decide) rfl (fun ls hl => ?_)
    exact zq_X2_signBehind_16 X hA  h H locs ls hB (lv_sub hl [2, 3, 4, 1, 0] rfl)
  · have h := h.2 c5
    refine lv_bipush (v := (-9 : Int32)) hx hb dX2_signBehind_8 (by decide) ?_
    exact zz_iret hx hb hr hlocks hB ⟨h, rfl, rfl⟩ dX2_signBehind_10
theorem zc_X2_signBehind (l : Launch) (D : va_G) (ca : Nat → ClassId) (a : Nat → Nat) (I : zz_I) (L : zz_L) (sz : Nat) {x1 : Int32} {x2 : Int32} {P : Int32 → Prop}  (h : zp_X2_signBehind x1 x2 P I L) : Met l yX2_signBehind [.code yX2_signBehind cX2_signBehind 6 (some .int)] ({ frames := 1, cells := 0, slots := 0, locals := 23 } : Room) (zz_Pre D ca zz_dC [.ref (a 14), .int x1, .int x2] a I L sz) (zz_Qi D ca zz_dC (zz_A ca zz_dC a I L sz) a (fun r I9 L9 => P r ∧ I9 = I ∧ L9 = L)) 0 0 (zz_A ca zz_dC a I L sz) :=
  zz_start (by decide) (Nat.le_of_ble_eq_true rfl) (fun p e s m below meth c X hsz hA => zq_X2_signBehind X hA  h)
