def zp_X8_readOneRule  (P : Int32 → zz_I → zz_L → Prop) (I : zz_I) (L : zz_L) : Prop := zp_X8_toldOf (0 : Int32) (fun r2 => zp_X8_toldOf (1 : Int32) (fun r7 => zp_X8_toldOf (2 : Int32) (fun r13 => (¬ ((r2 + r7) + r13) = (9 : Int32) → ∀ I31 : zz_I, I31 = zz_up I 0 3 ((I 0 3) + (1 : Int32)) → (zp_X8_isNext (48 : Int32) (0 : Int32) (2 : Int32) (fun r39 => (r39 = 0 → P (0 : Int32) I31 L) ∧ (¬ r39 = 0 → vp_in (I31 0 3) 110 ∧ (zp_X8_toldOf ((I31 1 (I31 0 3).toNatClampNeg) - (48 : Int32)) (fun r58 => (¬ r58 = (3 : Int32) → vp_in (I31 0 3) 110 ∧ (∀ v79 : Int32, v79 = (I31 1 (I31 0 3).toNatClampNeg) - (48 : Int32) → (∀ I87 : zz_I, I87 = zz_up I31 0 3 ((I31 0 3) + (1 : Int32)) → (zp_X8_isNext (48 : Int32) (0 : Int32) (2 : Int32) (fun r95 => (r95 = 0 → P (0 : Int32) I87 L) ∧ (¬ r95 = 0 → vp_in (I87 0 3) 110 ∧ (vp_in ((((3 : Int32) * v79) + (I87 1 (I87 0 3).toNatClampNeg)) - (48 : Int32)) 9 ∧ (((I87 12 ((((3 : Int32) * v79) + (I87 1 (I87 0 3).toNatClampNeg)) - (48 : Int32)).toNatClampNeg) = 0 → vp_in (I87 0 3) 110 ∧ (∀ v139 : Int32, v139 = (I87 1 (I87 0 3).toNatClampNeg) - (48 : Int32) → (∀ I147 : zz_I, I147 = zz_up I87 0 3 ((I87 0 3) + (1 : Int32)) → (zp_X8_isNext (48 : Int32) (0 : Int32) (2 : Int32) (fun r155 => (¬ r155 = 0 → vp_in (((3 : Int32) * v79) + v139) 9 ∧ (∀ I173 : zz_I, I173 = zz_up I147 12 (((3 : Int32) * v79) + v139).toNatClampNeg (vp_nar .boolean (1 : Int32)) → (vp_in (I173 0 3) 110 ∧ (vp_in (((2 : Int32) + ((3 : Int32) * v79)) + v139) 43 ∧ (∀ I197 : zz_I, I197 = zz_up I173 13 (((2 : Int32) + ((3 : Int32) * v79)) + v139).toNatClampNeg ((I173 1 (I173 0 3).toNatClampNeg) - (48 : Int32)) → (∀ I205 : zz_I, I205 = zz_up I197 0 3 ((I197 0 3) + (1 : Int32)) → (P (1 : Int32) I205 L))))))) ∧ (r155 = 0 → P (0 : Int32) I147 L)) I147 L)))) ∧ (¬ (I87 12 ((((3 : Int32) * v79) + (I87 1 (I87 0 3).toNatClampNeg)) - (48 : Int32)).toNatClampNeg) = 0 → P (0 : Int32) I87 L))))) I87 L)))) ∧ (r58 = (3 : Int32) → P (0 : Int32) I31 L)) I31 L))) I31 L)) ∧ (((r2 + r7) + r13) = (9 : Int32) → P (0 : Int32) I L)) I L) I L) I L
set_option maxHeartbeats 4000000 in
set_option maxRecDepth 100000 in
theorem zq_X8_readOneRule {p : Program} {l : Launch} {e : Env} {s : State} {m : MethodId} {args : Array Value} {below : List Frame} {meth : Method} {c : Code} {D : va_G} {ca : Nat → ClassId} {A : Nat → Prop} {a : Nat → Nat}  {P : Int32 → zz_I → zz_L → Prop} {I : zz_I} {L : zz_L}  (X : zz_X p s m meth c cX8_readOneRule RX8 (some .boolean) 3) (hA : ∀ q, s.heap.size ≤ q → A q)   (h : zp_X8_readOneRule  P I L) : zz_Go p l e ({ frames := 2, cells := 0, slots := 0, locals := 48 } : Room) s m args below meth c 0 0 (MQ below (zz_Qi D ca zz_dM A a P) args s 0 0 A) D ca zz_dM A 3 0 a [] [(0, .ref (a 0))] I L := by
  obtain ⟨hx, hb, hml, hown, zw, hr, hlocks⟩ := id X
  intro H locs ls hB hl
  unfold zp_X8_readOneRule at h
  refine lv_aload_n hx hb dX8_readOneRule_0 rfl (lv_at hl 0 rfl) ?_
  refine lv_iconst (v := (0 : Int32)) hx hb dX8_readOneRule_1 (by decide) ?_
  refine zz_goip hB hA (zz_runV (As := [.int (0 : Int32)]) (rest := []) hx hb hml hown zw hB zM_X8_120 (zc_X8_toldOf l D ca a I L H.size h) zdM_0 rfl rfl hl.1 rfl (Nat.le_of_ble_eq_true rfl) rfl rfl ⟨Nat.le_of_ble_eq_true rfl, Nat.le_of_ble_eq_true rfl⟩ dX8_readOneRule_2 ⟨Nat.le_of_ble_eq_true rfl, Nat.le_of_ble_eq_true rfl⟩) (fun r2 H locs h hB => ?_)
  refine lv_aload_n hx hb dX8_readOneRule_5 rfl (lv_at hl 0 rfl) ?_
  refine lv_iconst (v := (1 : Int32)) hx hb dX8_readOneRule_6 (by decide) ?_
  refine zz_goip hB hA (zz_runV (As := [.int (1 : Int32)]) (rest := [.int r2]) hx hb hml hown zw hB zM_X8_120 (zc_X8_toldOf l D ca a I L H.size h) zdM_0 rfl rfl hl.1 rfl (Nat.le_of_ble_eq_true rfl) rfl rfl ⟨Nat.le_of_ble_eq_true rfl, Nat.le_of_ble_eq_true rfl⟩ dX8_readOneRule_7 ⟨Nat.le_of_ble_eq_true rfl, Nat.le_of_ble_eq_true rfl⟩) (fun r7 H locs h hB => ?_)
  refine lv_iadd hx hb dX8_readOneRule_10 ?_
  refine lv_aload_n hx hb dX8_readOneRule_11 rfl (lv_at hl 0 rfl) ?_
  refine lv_iconst (v := (2 : Int32)) hx hb dX8_readOneRule_12 (by decide) ?_
  refine zz_goip hB hA (zz_runV (As := [.int (2 : Int32)]) (rest := [.int (r2 + r7)]) hx hb hml hown zw hB zM_X8_120 (zc_X8_toldOf l D ca a I L H.size h) zdM_0 rfl rfl hl.1 rfl (Nat.le_of_ble_eq_true rfl) rfl rfl ⟨Nat.le_of_ble_eq_true rfl, Nat.le_of_ble_eq_true rfl⟩ dX8_readOneRule_13 ⟨Nat.le_of_ble_eq_true rfl, Nat.le_of_ble_eq_true rfl⟩) (fun r13 H locs h hB => ?_)
  refine lv_iadd hx hb dX8_readOneRule_16 ?_
  refine lv_bipush (v := (9 : Int32)) hx hb dX8_readOneRule_17 (by decide) ?_
  refine lv_icmp_ne (tgt := 24) hx hb dX8_readOneRule_19 (by decide) (fun c19 => ?_) (fun c19 => ?_)
  · have h := h.1 c19
    refine lv_aload_n hx hb dX8_readOneRule_24 rfl (lv_at hl 0 rfl) ?_
    refine lv_dup hx hb dX8_readOneRule_25 rfl ?_
    refine zz_geti hx hb hown zw hB zF_X8_110 zdM_0 rfl dX8_readOneRule_26 ?_
    refine lv_iconst (v := (1 : Int32)) hx hb dX8_readOneRule_29 (by decide) ?_
    refine lv_iadd hx hb dX8_readOneRule_30 ?_
    refine zz_puti hx hb hown zw hB zP_X8_110 zdM_0 rfl dX8_readOneRule_31 (fun H locs hB => ?_)
    obtain ⟨I31, eI31⟩ : ∃ z : zz_I, z = zz_up I 0 3 ((I 0 3) + (1 : Int32)) := ⟨_, rfl⟩
    rw [← eI31] at hB
    have h := h I31 eI31
    refine lv_aload_n hx hb dX8_readOneRule_34 rfl (lv_at hl 0 rfl) ?_
    refine lv_bipush (v := (48 : Int32)) hx hb dX8_readOneRule_35 (by decide) ?_
    refine lv_iconst (v := (0 : Int32)) hx hb dX8_readOneRule_37 (by decide) ?_
    refine lv_iconst (v := (2 : Int32)) hx hb dX8_readOneRule_38 (by decide) ?_
    refine zz_goip hB hA (zz_runV (As := [.int (48 : Int32), .int (0 : Int32), .int (2 : Int32)]) (rest := []) hx hb hml hown zw hB zM_X8_116 (zc_X8_isNext l D ca a I31 L H.size h) zdM_0 rfl rfl hl.1 rfl (Nat.le_of_ble_eq_true rfl) rfl rfl ⟨Nat.le_of_ble_eq_true rfl, Nat.le_of_ble_eq_true rfl⟩ dX8_readOneRule_39 ⟨Nat.le_of_ble_eq_true rfl, Nat.le_of_ble_eq_true rfl⟩) (fun r39 H locs h hB => ?_)
    refine lv_if_eq (tgt := 65) hx hb dX8_readOneRule_42 (by decide) (fun c42 => ?_) (fun c42 => ?_)
    · have h := h.1 c42
      refine lv_iconst (v := (0 : Int32)) hx hb dX8_readOneRule_65 (by decide) ?_
      exact zz_zret hx hb hr hlocks zz_bool0 hB h dX8_readOneRule_66
    · have h := h.2 c42
      refine lv_aload_n hx hb dX8_readOneRule_45 rfl (lv_at hl 0 rfl) ?_
      refine lv_aload_n hx hb dX8_readOneRule_46 rfl (lv_at hl 0 rfl) ?_
      refine zz_getr (k' := 1) hx hb hown zw hB zF_X8_7 zdM_0 rfl rfl dX8_readOneRule_47 ?_
      refine lv_aload_n hx hb dX8_readOneRule_50 rfl (lv_at hl 0 rfl) ?_
      refine zz_geti hx hb hown zw hB zF_X8_110 zdM_0 rfl dX8_readOneRule_51 ?_
      obtain ⟨hi54, h⟩ := h
      refine zz_iald hx hb hB zdM_1 hi54 dX8_readOneRule_54 ?_
      refine lv_bipush (v := (48 : Int32)) hx hb dX8_readOneRule_55 (by decide) ?_
      refine lv_isub hx hb dX8_readOneRule_57 ?_
      refine zz_goip hB hA (zz_runV (As := [.int ((I31 1 (I31 0 3).toNatClampNeg) - (48 : Int32))]) (rest := []) hx hb hml hown zw hB zM_X8_120 (zc_X8_toldOf l D ca a I31 L H.size h) zdM_0 rfl rfl hl.1 rfl (Nat.le_of_ble_eq_true rfl) rfl rfl ⟨Nat.le_of_ble_eq_true rfl, Nat.le_of_ble_eq_true rfl⟩ dX8_readOneRule_58 ⟨Nat.le_of_ble_eq_true rfl, Nat.le_of_ble_eq_true rfl⟩) (fun r58 H locs h hB => ?_)
      refine lv_iconst (v := (3 : Int32)) hx hb dX8_readOneRule_61 (by decide) ?_
      refine lv_icmp_ne (tgt := 67) hx hb dX8_readOneRule_62 (by decide) (fun c62 => ?_) (fun c62 => ?_)
      · have h := h.1 c62
        refine lv_aload_n hx hb dX8_readOneRule_67 rfl (lv_at hl 0 rfl) ?_
        refine zz_getr (k' := 1) hx hb hown zw hB zF_X8_7 zdM_0 rfl rfl dX8_readOneRule_68 ?_
        refine lv_aload_n hx hb dX8_readOneRule_71 rfl (lv_at hl 0 rfl) ?_
        refine zz_geti hx hb hown zw hB zF_X8_110 zdM_0 rfl dX8_readOneRule_72 ?_
        obtain ⟨hi75, h⟩ := h
        refine zz_iald hx hb hB zdM_1 hi75 dX8_readOneRule_75 ?_
        refine lv_bipush (v := (48 : Int32)) hx hb dX8_readOneRule_76 (by decide) ?_
        refine lv_isub hx hb dX8_readOneRule_78 ?_
        refine lv_topi (fun v79 ev79 => ?_)
        have h := h v79 ev79
        refine lv_istore_n (lv' := [(1, .int v79), (0, .ref (a 0))]) hx hb dX8_readOneRule_79 rfl hl (by decide) rfl (fun ls hl => ?_)
        refine lv_aload_n hx hb dX8_readOneRule_80 rfl (lv_at hl 1 rfl) ?_
        refine lv_dup hx hb dX8_readOneRule_81 rfl ?_
        refine zz_geti hx hb hown zw hB zF_X8_110 zdM_0 rfl dX8_readOneRule_82 ?_
        refine lv_iconst (v := (1 : Int32)) hx hb dX8_readOneRule_85 (by decide) ?_
        refine lv_iadd hx hb dX8_readOneRule_86 ?_
        refine zz_puti hx hb hown zw hB zP_X8_110 zdM_0 rfl dX8_readOneRule_87 (fun H locs hB => ?_)
        obtain ⟨I87, eI87⟩ : ∃ z : zz_I, z = zz_up I31 0 3 ((I31 0 3) + (1 : Int32)) := ⟨_, rfl⟩
        rw [← eI87] at hB
        have h := h I87 eI87
        refine lv_aload_n hx hb dX8_readOneRule_90 rfl (lv_at hl 1 rfl) ?_
        refine lv_bipush (v := (48 : Int32)) hx hb dX8_readOneRule_91 (by decide) ?_
        refine lv_iconst (v := (0 : Int32)) hx hb dX8_readOneRule_93 (by decide) ?_
        refine lv_iconst (v := (2 : Int32)) hx hb dX8_readOneRule_94 (by decide) ?_
        refine zz_goip hB hA (zz_runV (As := [.int (48 : Int32), .int (0 : Int32), .int (2 : Int32)]) (rest := []) hx hb hml hown zw hB zM_X8_116 (zc_X8_isNext l D ca a I87 L H.size h) zdM_0 rfl rfl hl.1 rfl (Nat.le_of_ble_eq_true rfl) rfl rfl ⟨Nat.le_of_ble_eq_true rfl, Nat.le_of_ble_eq_true rfl⟩ dX8_readOneRule_95 ⟨Nat.le_of_ble_eq_true rfl, Nat.le_of_ble_eq_true rfl⟩) (fun r95 H locs h hB => ?_)
        refine lv_if_eq (tgt := 125) hx hb dX8_readOneRule_98 (by decide) (fun c98 => ?_) (fun c98 => ?_)
        · have h := h.1 c98
          refine lv_iconst (v := (0 : Int32)) hx hb dX8_readOneRule_125 (by decide) ?_
          exact zz_zret hx hb hr hlocks zz_bool0 hB h dX8_readOneRule_126
        · have h := h.2 c98
          refine lv_aload_n hx hb dX8_readOneRule_101 rfl (lv_at hl 1 rfl) ?_
          refine zz_getr (k' := 12) hx hb hown zw hB zF_X8_43 zdM_0 rfl rfl dX8_readOneRule_102 ?_
          refine lv_iconst (v := (3 : Int32)) hx hb dX8_readOneRule_105 (by decide) ?_
          refine lv_iload_n hx hb dX8_readOneRule_106 rfl (lv_at hl 0 rfl) ?_
          refine lv_imul hx hb dX8_readOneRule_107 ?_
          refine lv_aload_n hx hb dX8_readOneRule_108 rfl (lv_at hl 1 rfl) ?_
          refine zz_getr (k' := 1) hx hb hown zw hB zF_X8_7 zdM_0 rfl rfl dX8_readOneRule_109 ?_
          refine lv_aload_n hx hb dX8_readOneRule_112 rfl (lv_at hl 1 rfl) ?_
          refine zz_geti hx hb hown zw hB zF_X8_110 zdM_0 rfl dX8_readOneRule_113 ?_
          obtain ⟨hi116, h⟩ := h
          refine zz_iald hx hb hB zdM_1 hi116 dX8_readOneRule_116 ?_
          refine lv_iadd hx hb dX8_readOneRule_117 ?_
          refine lv_bipush (v := (48 : Int32)) hx hb dX8_readOneRule_118 (by decide) ?_
          refine lv_isub hx hb dX8_readOneRule_120 ?_
          obtain ⟨hi121, h⟩ := h
          refine zz_zald hx hb hB zdM_12 hi121 dX8_readOneRule_121 ?_
          refine lv_if_eq (tgt := 127) hx hb dX8_readOneRule_122 (by decide) (fun c122 => ?_) (fun c122 => ?_)
          · have h := h.1 c122
            refine lv_aload_n hx hb dX8_readOneRule_127 rfl (lv_at hl 1 rfl) ?_
            refine zz_getr (k' := 1) hx hb hown zw hB zF_X8_7 zdM_0 rfl rfl dX8_readOneRule_128 ?_
            refine lv_aload_n hx hb dX8_readOneRule_131 rfl (lv_at hl 1 rfl) ?_
            refine zz_geti hx hb hown zw hB zF_X8_110 zdM_0 rfl dX8_readOneRule_132 ?_
            obtain ⟨hi135, h⟩ := h
            refine zz_iald hx hb hB zdM_1 hi135 dX8_readOneRule_135 ?_
            refine lv_bipush (v := (48 : Int32)) hx hb dX8_readOneRule_136 (by decide) ?_
            refine lv_isub hx hb dX8_readOneRule_138 ?_
            refine lv_topi (fun v139 ev139 => ?_)
            have h := h v139 ev139
            refine lv_istore_n (lv' := [(2, .int v139), (1, .int v79), (0, .ref (a 0))]) hx hb dX8_readOneRule_139 rfl hl (by decide) rfl (fun ls hl => ?_)
            refine lv_aload_n hx hb dX8_readOneRule_140 rfl (lv_at hl 2 rfl) ?_
            refine lv_dup hx hb dX8_readOneRule_141 rfl ?_
            refine zz_geti hx hb hown zw hB zF_X8_110 zdM_0 rfl dX8_readOneRule_142 ?_
            refine lv_iconst (v := (1 : Int32)) hx hb dX8_readOneRule_145 (by decide) ?_
            refine lv_iadd hx hb dX8_readOneRule_146 ?_
            refine zz_puti hx hb hown zw hB zP_X8_110 zdM_0 rfl dX8_readOneRule_147 (fun H locs hB => ?_)
            obtain ⟨I147, eI147⟩ : ∃ z : zz_I, z = zz_up I87 0 3 ((I87 0 3) + (1 : Int32)) := ⟨_, rfl⟩
            rw [← eI147] at hB
            have h := h I147 eI147
            refine lv_aload_n hx hb dX8_readOneRule_150 rfl (lv_at hl 2 rfl) ?_
            refine lv_bipush (v := (48 : Int32)) hx hb dX8_readOneRule_151 (by decide) ?_
            refine lv_iconst (v := (0 : Int32)) hx hb dX8_readOneRule_153 (by decide) ?_
            refine lv_iconst (v := (2 : Int32)) hx hb dX8_readOneRule_154 (by decide) ?_
            refine zz_goip hB hA (zz_runV (As := [.int (48 : Int32), .int (0 : Int32), .int (2 : Int32)]) (rest := []) hx hb hml hown zw hB zM_X8_116 (zc_X8_isNext l D ca a I147 L H.size h) zdM_0 rfl rfl hl.1 rfl (Nat.le_of_ble_eq_true rfl) rfl rfl ⟨Nat.le_of_ble_eq_true rfl, Nat.le_of_ble_eq_true rfl⟩ dX8_readOneRule_155 ⟨Nat.le_of_ble_eq_true rfl, Nat.le_of_ble_eq_true rfl⟩) (fun r155 H locs h hB => ?_)
            refine lv_if_ne (tgt := 163) hx hb dX8_readOneRule_158 (by decide) (fun c158 => ?_) (fun c158 => ?_)
            · have h := h.1 c158
              refine lv_aload_n hx hb dX8_readOneRule_163 rfl (lv_at hl 2 rfl) ?_
              refine zz_getr (k' := 12) hx hb hown zw hB zF_X8_43 zdM_0 rfl rfl dX8_readOneRule_164 ?_
              refine lv_iconst (v := (3 : Int32)) hx hb dX8_readOneRule_167 (by decide) ?_
              refine lv_iload_n hx hb dX8_readOneRule_168 rfl (lv_at hl 1 rfl) ?_
              refine lv_imul hx hb dX8_readOneRule_169 ?_
              refine lv_iload_n hx hb dX8_readOneRule_170 rfl (lv_at hl 0 rfl) ?_
              refine lv_iadd hx hb dX8_readOneRule_171 ?_
              refine lv_iconst (v := (1 : Int32)) hx hb dX8_readOneRule_172 (by decide) ?_
              obtain ⟨hi173, h⟩ := h
              refine zz_zast hx hb hB zdM_12 hi173 dX8_readOneRule_173 (fun H locs hB => ?_)
              obtain ⟨I173, eI173⟩ : ∃ z : zz_I, z = zz_up I147 12 (((3 : Int32) * v79) + v139).toNatClampNeg (vp_nar .boolean (1 : Int32)) := ⟨_, rfl⟩
              rw [← eI173] at hB
              have h := h I173 eI173
              refine lv_aload_n hx hb dX8_readOneRule_174 rfl (lv_at hl 2 rfl) ?_
              refine zz_getr (k' := 13) hx hb hown zw hB zF_X8_47 zdM_0 rfl rfl dX8_readOneRule_175 ?_
              refine lv_iconst (v := (2 : Int32)) hx hb dX8_readOneRule_178 (by decide) ?_
              refine lv_iconst (v := (3 : Int32)) hx hb dX8_readOneRule_179 (by decide) ?_
              refine lv_iload_n hx hb dX8_readOneRule_180 rfl (lv_at hl 1 rfl) ?_
              refine lv_imul hx hb dX8_readOneRule_181 ?_
              refine lv_iadd hx hb dX8_readOneRule_182 ?_
              refine lv_iload_n hx hb dX8_readOneRule_183 rfl (lv_at hl 0 rfl) ?_
              refine lv_iadd hx hb dX8_readOneRule_184 ?_
              refine lv_aload_n hx hb dX8_readOneRule_185 rfl (lv_at hl 2 rfl) ?_
              refine zz_getr (k' := 1) hx hb hown zw hB zF_X8_7 zdM_0 rfl rfl dX8_readOneRule_186 ?_
              refine lv_aload_n hx hb dX8_readOneRule_189 rfl (lv_at hl 2 rfl) ?_
              refine zz_geti hx hb hown zw hB zF_X8_110 zdM_0 rfl dX8_readOneRule_190 ?_
              obtain ⟨hi193, h⟩ := h
              refine zz_iald hx hb hB zdM_1 hi193 dX8_readOneRule_193 ?_
              refine lv_bipush (v := (48 : Int32)) hx hb dX8_readOneRule_194 (by decide) ?_
              refine lv_isub hx hb dX8_readOneRule_196 ?_
              obtain ⟨hi197, h⟩ := h
              refine zz_iast hx hb hB zdM_13 hi197 dX8_readOneRule_197 (fun H locs hB => ?_)
              obtain ⟨I197, eI197⟩ : ∃ z : zz_I, z = zz_up I173 13 (((2 : Int32) + ((3 : Int32) * v79)) + v139).toNatClampNeg ((I173 1 (I173 0 3).toNatClampNeg) - (48 : Int32)) := ⟨_, rfl⟩
              rw [← eI197] at hB
              have h := h I197 eI197
              refine lv_aload_n hx hb dX8_readOneRule_198 rfl (lv_at hl 2 rfl) ?_
              refine lv_dup hx hb dX8_readOneRule_199 rfl ?_
              refine zz_geti hx hb hown zw hB zF_X8_110 zdM_0 rfl dX8_readOneRule_200 ?_
              refine lv_iconst (v := (1 : Int32)) hx hb dX8_readOneRule_203 (by decide) ?_
              refine lv_iadd hx hb dX8_readOneRule_204 ?_
              refine zz_puti hx hb hown zw hB zP_X8_110 zdM_0 rfl dX8_readOneRule_205 (fun H locs hB => ?_)
              obtain ⟨I205, eI205⟩ : ∃ z : zz_I, z = zz_up I197 0 3 ((I197 0 3) + (1 : Int32)) := ⟨_, rfl⟩
              rw [← eI205] at hB
              have h := h I205 eI205
              refine lv_iconst (v := (1 : Int32)) hx hb dX8_readOneRule_208 (by decide) ?_
              exact zz_zret hx hb hr hlocks zz_bool1 hB h dX8_readOneRule_209
            · have h := h.2 c158
              refine lv_iconst (v := (0 : Int32)) hx hb dX8_readOneRule_161 (by decide) ?_
              exact zz_zret hx hb hr hlocks zz_bool0 hB h dX8_readOneRule_162
          · have h := h.2 c122
            refine lv_iconst (v := (0 : Int32)) hx hb dX8_readOneRule_125 (by decide) ?_
            exact zz_zret hx hb hr hlocks zz_bool0 hB h dX8_readOneRule_126
      · have h := h.2 c62
        refine lv_iconst (v := (0 : Int32)) hx hb dX8_readOneRule_65 (by decide) ?_
        exact zz_zret hx hb hr hlocks zz_bool0 hB h dX8_readOneRule_66
  · have h := h.2 c19
    refine lv_iconst (v := (0 : Int32)) hx hb dX8_readOneRule_22 (by decide) ?_
    exact zz_zret hx hb hr hlocks zz_bool0 hB h dX8_readOneRule_23
theorem zc_X8_readOneRule (l : Launch) (D : va_G) (ca : Nat → ClassId) (a : Nat → Nat) (I : zz_I) (L : zz_L) (sz : Nat)  {P : Int32 → zz_I → zz_L → Prop}  (h : zp_X8_readOneRule  P I L) : Met l yX8_readOneRule [.code yX8_readOneRule cX8_readOneRule 3 (some .boolean)] ({ frames := 2, cells := 0, slots := 0, locals := 48 } : Room) (zz_Pre D ca zz_dM [.ref (a 0)] a I L sz) (zz_Qi D ca zz_dM (zz_A ca zz_dM a I L sz) a P) 0 0 (zz_A ca zz_dM a I L sz) :=
  zz_start (by decide) (Nat.le_of_ble_eq_true rfl) (fun p e s m below meth c X hsz hA => zq_X8_readOneRule X hA  h)
def zp_X8_readLine_177 (K10 : zz_I → zz_L → Prop) (K147 : Int32 → zz_I → zz_L → Prop) (P : Int32 → zz_I → zz_L → Prop) (x1 : Int32) (x2 : Int32) (x3 : Int32) (s0 : Int32) (I : zz_I) (L : zz_L) : Prop := vp_in s0 43 ∧ (∀ I183 : zz_I, I183 = zz_up I 13 s0.toNatClampNeg x1 → (∀ v184 : Int32, v184 = x3 + (1 : Int32) → (K147 v184 I183 L)))
set_option maxHeartbeats 4000000 in
set_option maxRecDepth 100000 in
theorem zq_X8_readLine_177 {p : Program} {l : Launch} {e : Env} {s : State} {m : MethodId} {args : Array Value} {below : List Frame} {meth : Method} {c : Code} {D : va_G} {ca : Nat → ClassId} {A : Nat → Prop} {a : Nat → Nat} {K10 : zz_I → zz_L → Prop} {K147 : Int32 → zz_I → zz_L → Prop} {P : Int32 → zz_I → zz_L → Prop} {I : zz_I} {L : zz_L} {x1 : Int32} {x2 : Int32} {x3 : Int32} {s0 : Int32} (X : zz_X p s m meth c cX8_readLine RX8 (some .boolean) 4) (hA : ∀ q, s.heap.size ≤ q → A q)  (hK10 : ∀  (I8 : zz_I) (L8 : zz_L), K10 I8 L8 → zz_Go p l e ({ frames := 2, cells := 0, slots := 0, locals := 48 } : Room) s m args below meth c 0 0 (MQ below (zz_Qi D ca zz_dM A a P) args s 0 0 A) D ca zz_dM A 4 10 a [] [(0, .ref (a 0))] I8 L8) (hK147 : ∀ (y3 : Int32) (I8 : zz_I) (L8 : zz_L), K147 y3 I8 L8 → zz_Go p l e ({ frames := 2, cells := 0, slots := 0, locals := 48 } : Room) s m args below meth c 0 0 (MQ below (zz_Qi D ca zz_dM A a P) args s 0 0 A) D ca zz_dM A 4 147 a [] [(0, .ref (a 0)), (1, .int x1), (2, .int x2), (3, .int y3)] I8 L8) (h : zp_X8_readLine_177 K10 K147 P x1 x2 x3 s0 I L) : zz_Go p l e ({ frames := 2, cells := 0, slots := 0, locals := 48 } : Room) s m args below meth c 0 0 (MQ below (zz_Qi D ca zz_dM A a P) args s 0 0 A) D ca zz_dM A 4 177 a [.int s0, .ref (a 13)] [(0, .ref (a 0)), (1, .int x1), (2, .int x2), (3, .int x3)] I L := by
  obtain ⟨hx, hb, hml, hown, zw, hr, hlocks⟩ := id X
  intro H locs ls hB hl
  unfold zp_X8_readLine_177 at h
  refine lv_iload_n hx hb dX8_readLine_177 rfl (lv_at hl 1 rfl) ?_
  refine lv_goto (tgt := 183) hx hb dX8_readLine_178 (by decide) ?_
  obtain ⟨hi183, h⟩ := h
  refine zz_iast hx hb hB zdM_13 hi183 dX8_readLine_183 (fun H locs hB => ?_)
  obtain ⟨I183, eI183⟩ : ∃ z : zz_I, z = zz_up I 13 s0.toNatClampNeg x1 := ⟨_, rfl⟩
  rw [← eI183] at hB
  have h := h I183 eI183
  obtain ⟨v184, ev184⟩ : ∃ z : Int32, z = x3 + (1 : Int32) := ⟨_, rfl⟩
  have h := h v184 ev184
  refine lv_iinc (v := v184) (lv' := [(3, .int v184), (0, .ref (a 0)), (1, .int x1), (2, .int x2)]) hx hb dX8_readLine_184 hl (k := 3) rfl (by rw [ev184]; rfl) (by decide) rfl (fun ls hl => ?_)
  refine lv_goto (tgt := 147) hx hb dX8_readLine_187 (by decide) ?_
  exact hK147 _ _ _ h H locs ls hB (lv_sub hl [1, 2, 3, 0] rfl)
def zp_X8_readLine_147b (K10 : zz_I → zz_L → Prop) (K147 : Int32 → zz_I → zz_L → Prop) (P : Int32 → zz_I → zz_L → Prop) (x1 : Int32) (x2 : Int32) (x3 : Int32) (I : zz_I) (L : zz_L) : Prop := (x2 ≤ x3 → vp_in (0 : Int32) 43 ∧ (vp_in (0 : Int32) 43 ∧ (∀ I199 : zz_I, I199 = zz_up I 13 (0 : Int32).toNatClampNeg ((I 13 (0 : Int32).toNatClampNeg) + x2) → (∀ I207 : zz_I, I207 = zz_up I199 0 3 ((I199 0 3) + (1 : Int32)) → (K10 I207 L))))) ∧ (¬ x2 ≤ x3 → vp_in (0 : Int32) 43 ∧ ((x1 = (7 : Int32) → zp_X8_readLine_177 K10 K147 P x1 x2 x3 (((19 : Int32) + (I 13 (0 : Int32).toNatClampNeg)) + x3) I L) ∧ (¬ x1 = (7 : Int32) → (¬ x3 = 0 → vp_in (((19 : Int32) + (I 13 (0 : Int32).toNatClampNeg)) + x3) 43 ∧ (∀ I183 : zz_I, I183 = zz_up I 13 (((19 : Int32) + (I 13 (0 : Int32).toNatClampNeg)) + x3).toNatClampNeg (8 : Int32) → (∀ v184 : Int32, v184 = x3 + (1 : Int32) → (K147 v184 I183 L)))) ∧ (x3 = 0 → zp_X8_readLine_177 K10 K147 P x1 x2 x3 (((19 : Int32) + (I 13 (0 : Int32).toNatClampNeg)) + x3) I L))))
set_option maxHeartbeats 4000000 in
set_option maxRecDepth 100000 in
theorem zq_X8_readLine_147b {p : Program} {l : Launch} {e : Env} {s : State} {m : MethodId} {args : Array Value} {below : List Frame} {meth : Method} {c : Code} {D : va_G} {ca : Nat → ClassId} {A : Nat → Prop} {a : Nat → Nat} {K10 : zz_I → zz_L → Prop} {K147 : Int32 → zz_I → zz_L → Prop} {P : Int32 → zz_I → zz_L → Prop} {I : zz_I} {L : zz_L} {x1 : Int32} {x2 : Int32} {x3 : Int32} (X : zz_X p s m meth c cX8_readLine RX8 (some .boolean) 4) (hA : ∀ q, s.heap.size ≤ q → A q)  (hK10 : ∀  (I8 : zz_I) (L8 : zz_L), K10 I8 L8 → zz_Go p l e ({ frames := 2, cells := 0, slots := 0, locals := 48 } : Room) s m args below meth c 0 0 (MQ below (zz_Qi D ca zz_dM A a P) args s 0 0 A) D ca zz_dM A 4 10 a [] [(0, .ref (a 0))] I8 L8) (hK147 : ∀ (y3 : Int32) (I8 : zz_I) (L8 : zz_L), K147 y3 I8 L8 → zz_Go p l e ({ frames := 2, cells := 0, slots := 0, locals := 48 } : Room) s m args below meth c 0 0 (MQ below (zz_Qi D ca zz_dM A a P) args s 0 0 A) D ca zz_dM A 4 147 a [] [(0, .ref (a 0)), (1, .int x1), (2, .int x2), (3, .int y3)] I8 L8) (h : zp_X8_readLine_147b K10 K147 P x1 x2 x3 I L) : zz_Go p l e ({ frames := 2, cells := 0, slots := 0, locals := 48 } : Room) s m args below meth c 0 0 (MQ below (zz_Qi D ca zz_dM A a P) args s 0 0 A) D ca zz_dM A 4 147 a [] [(0, .ref (a 0)), (1, .int x1), (2, .int x2), (3, .int x3)] I L := by
  obtain ⟨hx, hb, hml, hown, zw, hr, hlocks⟩ := id X
  intro H locs ls hB hl
  unfold zp_X8_readLine_147b at h
  refine lv_iload_n hx hb dX8_readLine_147 rfl (lv_at hl 3 rfl) ?_
  refine lv_iload_n hx hb dX8_readLine_148 rfl (lv_at hl 2 rfl) ?_
  refine lv_icmp_ge (tgt := 190) hx hb dX8_readLine_149 (by decide) (fun c149 => ?_) (fun c149 => ?_)
  · have h := h.1 c149
    refine lv_aload_n hx hb dX8_readLine_190 rfl (lv_at hl 0 rfl) ?_
    refine zz_getr (k' := 13) hx hb hown zw hB zF_X8_47 zdM_0 rfl rfl dX8_readLine_191 ?_
    refine lv_iconst (v := (0 : Int32)) hx hb dX8_readLine_194 (by decide) ?_
    refine lv_dup2_11 hx hb dX8_readLine_195 rfl rfl ?_
    obtain ⟨hi196, h⟩ := h
    refine zz_iald hx hb hB zdM_13 hi196 dX8_readLine_196 ?_
    refine lv_iload_n hx hb dX8_readLine_197 rfl (lv_at hl 2 rfl) ?_
    refine lv_iadd hx hb dX8_readLine_198 ?_
    obtain ⟨hi199, h⟩ := h
    refine zz_iast hx hb hB zdM_13 hi199 dX8_readLine_199 (fun H locs hB => ?_)
    obtain ⟨I199, eI199⟩ : ∃ z : zz_I, z = zz_up I 13 (0 : Int32).toNatClampNeg ((I 13 (0 : Int32).toNatClampNeg) + x2) := ⟨_, rfl⟩
    rw [← eI199] at hB
    have h := h I199 eI199
    refine lv_aload_n hx hb dX8_readLine_200 rfl (lv_at hl 0 rfl) ?_
    refine lv_dup hx hb dX8_readLine_201 rfl ?_
    refine zz_geti hx hb hown zw hB zF_X8_110 zdM_0 rfl dX8_readLine_202 ?_
    refine lv_iconst (v := (1 : Int32)) hx hb dX8_readLine_205 (by decide) ?_
    refine lv_iadd hx hb dX8_readLine_206 ?_
    refine zz_puti hx hb hown zw hB zP_X8_110 zdM_0 rfl dX8_readLine_207 (fun H locs hB => ?_)
    obtain ⟨I207, eI207⟩ : ∃ z : zz_I, z = zz_up I199 0 3 ((I199 0 3) + (1 : Int32)) := ⟨_, rfl⟩
    rw [← eI207] at hB
    have h := h I207 eI207
    refine lv_goto (tgt := 10) hx hb dX8_readLine_210 (by decide) ?_
    exact hK10 _ _ h H locs ls hB (lv_sub hl [0] rfl)
  · have h := h.2 c149
    refine lv_aload_n hx hb dX8_readLine_152 rfl (lv_at hl 0 rfl) ?_
    refine zz_getr (k' := 13) hx hb hown zw hB zF_X8_47 zdM_0 rfl rfl dX8_readLine_153 ?_
    refine lv_bipush (v := (19 : Int32)) hx hb dX8_readLine_156 (by decide) ?_
    refine lv_aload_n hx hb dX8_readLine_158 rfl (lv_at hl 0 rfl) ?_
    refine zz_getr (k' := 13) hx hb hown zw hB zF_X8_47 zdM_0 rfl rfl dX8_readLine_159 ?_
    refine lv_iconst (v := (0 : Int32)) hx hb dX8_readLine_162 (by decide) ?_
    obtain ⟨hi163, h⟩ := h
    refine zz_iald hx hb hB zdM_13 hi163 dX8_readLine_163 ?_
    refine lv_iadd hx hb dX8_readLine_164 ?_
    refine lv_iload_n hx hb dX8_readLine_165 rfl (lv_at hl 3 rfl) ?_
    refine lv_iadd hx hb dX8_readLine_166 ?_
    refine lv_iload_n hx hb dX8_readLine_167 rfl (lv_at hl 1 rfl) ?_
    refine lv_bipush (v := (7 : Int32)) hx hb dX8_readLine_168 (by decide) ?_
    refine lv_icmp_eq (tgt := 177) hx hb dX8_readLine_170 (by decide) (fun c170 => ?_) (fun c170 => ?_)
    · have h := h.1 c170
      exact zq_X8_readLine_177 X hA hK10 hK147 h H locs ls hB (lv_sub hl [0, 1, 2, 3] rfl)
    · have h := h.2 c170
      refine lv_iload_n hx hb dX8_readLine_173 rfl (lv_at hl 3 rfl) ?_
      refine lv_if_ne (tgt := 181) hx hb dX8_readLine_174 (by decide) (fun c174 => ?_) (fun c174 => ?_)
      · have h := h.1 c174
        refine lv_bipush (v := (8 : Int32)) hx hb dX8_readLine_181 (by decide) ?_
        obtain ⟨hi183, h⟩ := h
        refine zz_iast hx hb hB zdM_13 hi183 dX8_readLine_183 (fun H locs hB => ?_)
        obtain ⟨I183, eI183⟩ : ∃ z : zz_I, z = zz_up I 13 (((19 : Int32) + (I 13 (0 : Int32).toNatClampNeg)) + x3).toNatClampNeg (8 : Int32) := ⟨_, rfl⟩
        rw [← eI183] at hB
        have h := h I183 eI183
        obtain ⟨v184, ev184⟩ : ∃ z : Int32, z = x3 + (1 : Int32) := ⟨_, rfl⟩
        have h := h v184 ev184
        refine lv_iinc (v := v184) (lv' := [(3, .int v184), (0, .ref (a 0)), (1, .int x1), (2, .int x2)]) hx hb dX8_readLine_184 hl (k := 3) rfl (by rw [ev184]; rfl) (by decide) rfl (fun ls hl => ?_)
        refine lv_goto (tgt := 147) hx hb dX8_readLine_187 (by decide) ?_
        exact hK147 _ _ _ h H locs ls hB (lv_sub hl [1, 2, 3, 0] rfl)
      · have h := h.2 c174
        exact zq_X8_readLine_177 X hA hK10 hK147 h H locs ls hB (lv_sub hl [0, 1, 2, 3] rfl)
def zp_X8_readLine_147 (K10 : zz_I → zz_L → Prop) (P : Int32 → zz_I → zz_L → Prop) (x1 : Int32) (x2 : Int32) (x3 : Int32) (I : zz_I) (L : zz_L) : Prop := ∃ (Inv : Int32 → zz_I → zz_L → Prop) (μ : Int32 → zz_I → zz_L → Nat), Inv x3 I L ∧ ∀ (y3 : Int32) (I8 : zz_I) (L8 : zz_L), Inv y3 I8 L8 → zp_X8_readLine_147b K10 (fun z3 I7 L7 => Inv z3 I7 L7 ∧ μ z3 I7 L7 < μ y3 I8 L8) P x1 x2 y3 I8 L8
set_option maxHeartbeats 4000000 in
set_option maxRecDepth 100000 in
theorem zq_X8_readLine_147 {p : Program} {l : Launch} {e : Env} {s : State} {m : MethodId} {args : Array Value} {below : List Frame} {meth : Method} {c : Code} {D : va_G} {ca : Nat → ClassId} {A : Nat → Prop} {a : Nat → Nat} {K10 : zz_I → zz_L → Prop} {P : Int32 → zz_I → zz_L → Prop} {I : zz_I} {L : zz_L} {x1 : Int32} {x2 : Int32} {x3 : Int32} (X : zz_X p s m meth c cX8_readLine RX8 (some .boolean) 4) (hA : ∀ q, s.heap.size ≤ q → A q)  (hK10 : ∀  (I8 : zz_I) (L8 : zz_L), K10 I8 L8 → zz_Go p l e ({ frames := 2, cells := 0, slots := 0, locals := 48 } : Room) s m args below meth c 0 0 (MQ below (zz_Qi D ca zz_dM A a P) args s 0 0 A) D ca zz_dM A 4 10 a [] [(0, .ref (a 0))] I8 L8) (h : zp_X8_readLine_147 K10 P x1 x2 x3 I L) : zz_Go p l e ({ frames := 2, cells := 0, slots := 0, locals := 48 } : Room) s m args below meth c 0 0 (MQ below (zz_Qi D ca zz_dM A a P) args s 0 0 A) D ca zz_dM A 4 147 a [] [(0, .ref (a 0)), (1, .int x1), (2, .int x2), (3, .int x3)] I L := by
  unfold zp_X8_readLine_147 at h
  obtain ⟨Inv, μ, hv0, hs⟩ := h
  have key : ∀ (n9 : Nat) (y3 : Int32) (I8 : zz_I) (L8 : zz_L), μ y3 I8 L8 < n9 → Inv y3 I8 L8 → zz_Go p l e ({ frames := 2, cells := 0, slots := 0, locals := 48 } : Room) s m args below meth c 0 0 (MQ below (zz_Qi D ca zz_dM A a P) args s 0 0 A) D ca zz_dM A 4 147 a [] [(0, .ref (a 0)), (1, .int x1), (2, .int x2), (3, .int y3)] I8 L8 := by
    intro n9
    induction n9 with
    | zero => intro y3 I8 L8 hn; exact absurd hn (Nat.not_lt_zero _)
    | succ n9 ih =>
      intro y3 I8 L8 hn hi
      exact zq_X8_readLine_147b (K147 := (fun z3 I7 L7 => Inv z3 I7 L7 ∧ μ z3 I7 L7 < μ y3 I8 L8)) X hA  hK10 (fun z3 I7 L7 hz => ih z3 I7 L7 (Nat.lt_of_lt_of_le hz.2 (Nat.le_of_lt_succ hn)) hz.1) (hs y3 I8 L8 hi)
  exact key _ x3 I L (Nat.lt_succ_self _) hv0
def zp_X8_readLine_123 (K10 : zz_I → zz_L → Prop) (P : Int32 → zz_I → zz_L → Prop) (x1 : Int32) (s0 : Int32) (I : zz_I) (L : zz_L) : Prop := (x1 = (-9 : Int32) → P (0 : Int32) I L) ∧ (¬ x1 = (-9 : Int32) → vp_in (0 : Int32) 43 ∧ ((((I 13 (0 : Int32).toNatClampNeg) + s0) ≤ (24 : Int32) → zp_X8_readLine_147 K10 P x1 s0 (0 : Int32) I L) ∧ (¬ ((I 13 (0 : Int32).toNatClampNeg) + s0) ≤ (24 : Int32) → P (0 : Int32) I L)))
set_option maxHeartbeats 4000000 in
set_option maxRecDepth 100000 in
theorem zq_X8_readLine_123 {p : Program} {l : Launch} {e : Env} {s : State} {m : MethodId} {args : Array Value} {below : List Frame} {meth : Method} {c : Code} {D : va_G} {ca : Nat → ClassId} {A : Nat → Prop} {a : Nat → Nat} {K10 : zz_I → zz_L → Prop} {P : Int32 → zz_I → zz_L → Prop} {I : zz_I} {L : zz_L} {x1 : Int32} {s0 : Int32} (X : zz_X p s m meth c cX8_readLine RX8 (some .boolean) 4) (hA : ∀ q, s.heap.size ≤ q → A q)  (hK10 : ∀  (I8 : zz_I) (L8 : zz_L), K10 I8 L8 → zz_Go p l e ({ frames := 2, cells := 0, slots := 0, locals := 48 } : Room) s m args below meth c 0 0 (MQ below (zz_Qi D ca zz_dM A a P) args s 0 0 A) D ca zz_dM A 4 10 a [] [(0, .ref (a 0))] I8 L8) (h : zp_X8_readLine_123 K10 P x1 s0 I L) : zz_Go p l e ({ frames := 2, cells := 0, slots := 0, locals := 48 } : Room) s m args below meth c 0 0 (MQ below (zz_Qi D ca zz_dM A a P) args s 0 0 A) D ca zz_dM A 4 123 a [.int s0] [(0, .ref (a 0)), (1, .int x1)] I L := by
  obtain ⟨hx, hb, hml, hown, zw, hr, hlocks⟩ := id X
  intro H locs ls hB hl
  unfold zp_X8_readLine_123 at h
  refine lv_istore_n (lv' := [(2, .int s0), (0, .ref (a 0)), (1, .int x1)]) hx hb dX8_readLine_123 rfl hl (by decide) rfl (fun ls hl => ?_)
  refine lv_iload_n hx hb dX8_readLine_124 rfl (lv_at hl 2 rfl) ?_
  refine lv_bipush (v := (-9 : Int32)) hx hb dX8_readLine_125 (by decide) ?_
  refine lv_icmp_eq (tgt := 143) hx hb dX8_readLine_127 (by decide) (fun c127 => ?_) (fun c127 => ?_)
  · have h := h.1 c127
    refine lv_iconst (v := (0 : Int32)) hx hb dX8_readLine_143 (by decide) ?_
    exact zz_zret hx hb hr hlocks zz_bool0 hB h dX8_readLine_144
  · have h := h.2 c127
    refine lv_aload_n hx hb dX8_readLine_130 rfl (lv_at hl 1 rfl) ?_
    refine zz_getr (k' := 13) hx hb hown zw hB zF_X8_47 zdM_0 rfl rfl dX8_readLine_131 ?_
    refine lv_iconst (v := (0 : Int32)) hx hb dX8_readLine_134 (by decide) ?_
    obtain ⟨hi135, h⟩ := h
    refine zz_iald hx hb hB zdM_13 hi135 dX8_readLine_135 ?_
    refine lv_iload_n hx hb dX8_readLine_136 rfl (lv_at hl 0 rfl) ?_
    refine lv_iadd hx hb dX8_readLine_137 ?_
    refine lv_bipush (v := (24 : Int32)) hx hb dX8_readLine_138 (by decide) ?_
    refine lv_icmp_le (tgt := 145) hx hb dX8_readLine_140 (by decide) (fun c140 => ?_) (fun c140 => ?_)
    · have h := h.1 c140
      refine lv_iconst (v := (0 : Int32)) hx hb dX8_readLine_145 (by decide) ?_
      refine lv_istore_n (lv' := [(3, .int (0 : Int32)), (2, .int s0), (0, .ref (a 0)), (1, .int x1)]) hx hb dX8_readLine_146 rfl hl (by decide) rfl (fun ls hl => ?_)
      exact zq_X8_readLine_147 X hA hK10 h H locs ls hB (lv_sub hl [2, 3, 1, 0] rfl)
    · have h := h.2 c140
      refine lv_iconst (v := (0 : Int32)) hx hb dX8_readLine_143 (by decide) ?_
      exact zz_zret hx hb hr hlocks zz_bool0 hB h dX8_readLine_144
def zp_X8_readLine_85 (K10 : zz_I → zz_L → Prop) (P : Int32 → zz_I → zz_L → Prop) (s0 : Int32) (I : zz_I) (L : zz_L) : Prop := (¬ s0 = (7 : Int32) → (¬ s0 = (-9 : Int32) → vp_in s0 7 ∧ (zp_X8_readLine_123 K10 P s0 (I 7 s0.toNatClampNeg) I L)) ∧ (s0 = (-9 : Int32) → zp_X8_readLine_123 K10 P s0 (0 : Int32) I L)) ∧ (s0 = (7 : Int32) → vp_in (I 0 3) 110 ∧ (zp_X8_readLine_123 K10 P s0 ((I 1 (I 0 3).toNatClampNeg) - (48 : Int32)) I L))
set_option maxHeartbeats 4000000 in
set_option maxRecDepth 100000 in
theorem zq_X8_readLine_85 {p : Program} {l : Launch} {e : Env} {s : State} {m : MethodId} {args : Array Value} {below : List Frame} {meth : Method} {c : Code} {D : va_G} {ca : Nat → ClassId} {A : Nat → Prop} {a : Nat → Nat} {K10 : zz_I → zz_L → Prop} {P : Int32 → zz_I → zz_L → Prop} {I : zz_I} {L : zz_L} {s0 : Int32} (X : zz_X p s m meth c cX8_readLine RX8 (some .boolean) 4) (hA : ∀ q, s.heap.size ≤ q → A q)  (hK10 : ∀  (I8 : zz_I) (L8 : zz_L), K10 I8 L8 → zz_Go p l e ({ frames := 2, cells := 0, slots := 0, locals := 48 } : Room) s m args below meth c 0 0 (MQ below (zz_Qi D ca zz_dM A a P) args s 0 0 A) D ca zz_dM A 4 10 a [] [(0, .ref (a 0))] I8 L8) (h : zp_X8_readLine_85 K10 P s0 I L) : zz_Go p l e ({ frames := 2, cells := 0, slots := 0, locals := 48 } : Room) s m args below meth c 0 0 (MQ below (zz_Qi D ca zz_dM A a P) args s 0 0 A) D ca zz_dM A 4 85 a [.int s0] [(0, .ref (a 0))] I L := by
  obtain ⟨hx, hb, hml, hown, zw, hr, hlocks⟩ := id X
  intro H locs ls hB hl
  unfold zp_X8_readLine_85 at h
  refine lv_istore_n (lv' := [(1, .int s0), (0, .ref (a 0))]) hx hb dX8_readLine_85 rfl hl (by decide) rfl (fun ls hl => ?_)
  refine lv_iload_n hx hb dX8_readLine_86 rfl (lv_at hl 0 rfl) ?_
  refine lv_bipush (v := (7 : Int32)) hx hb dX8_readLine_87 (by decide) ?_
  refine lv_icmp_ne (tgt := 107) hx hb dX8_readLine_89 (by decide) (fun c89 => ?_) (fun c89 => ?_)
  · have h := h.1 c89
    refine lv_iload_n hx hb dX8_readLine_107 rfl (lv_at hl 0 rfl) ?_
    refine lv_bipush (v := (-9 : Int32)) hx hb dX8_readLine_108 (by decide) ?_
    refine lv_icmp_ne (tgt := 117) hx hb dX8_readLine_110 (by decide) (fun c110 => ?_) (fun c110 => ?_)
    · have h := h.1 c110
      refine lv_aload_n hx hb dX8_readLine_117 rfl (lv_at hl 1 rfl) ?_
      refine zz_getr (k' := 7) hx hb hown zw hB zF_X8_28 zdM_0 rfl rfl dX8_readLine_118 ?_
      refine lv_iload_n hx hb dX8_readLine_121 rfl (lv_at hl 0 rfl) ?_
      obtain ⟨hi122, h⟩ := h
      refine zz_iald hx hb hB zdM_7 hi122 dX8_readLine_122 ?_
      exact zq_X8_readLine_123 X hA hK10 h H locs ls hB (lv_sub hl [1, 0] rfl)
    · have h := h.2 c110
      refine lv_iconst (v := (0 : Int32)) hx hb dX8_readLine_113 (by decide) ?_
      refine lv_goto (tgt := 123) hx hb dX8_readLine_114 (by decide) ?_
      exact zq_X8_readLine_123 X hA hK10 h H locs ls hB (lv_sub hl [1, 0] rfl)
  · have h := h.2 c89
    refine lv_aload_n hx hb dX8_readLine_92 rfl (lv_at hl 1 rfl) ?_
    refine zz_getr (k' := 1) hx hb hown zw hB zF_X8_7 zdM_0 rfl rfl dX8_readLine_93 ?_
    refine lv_aload_n hx hb dX8_readLine_96 rfl (lv_at hl 1 rfl) ?_
    refine zz_geti hx hb hown zw hB zF_X8_110 zdM_0 rfl dX8_readLine_97 ?_
    obtain ⟨hi100, h⟩ := h
    refine zz_iald hx hb hB zdM_1 hi100 dX8_readLine_100 ?_
    refine lv_bipush (v := (48 : Int32)) hx hb dX8_readLine_101 (by decide) ?_
    refine lv_isub hx hb dX8_readLine_103 ?_
    refine lv_goto (tgt := 123) hx hb dX8_readLine_104 (by decide) ?_
    exact zq_X8_readLine_123 X hA hK10 h H locs ls hB (lv_sub hl [1, 0] rfl)
def zp_X8_readLine_10b (K10 : zz_I → zz_L → Prop) (P : Int32 → zz_I → zz_L → Prop)  (I : zz_I) (L : zz_L) : Prop := ((I 0 2) ≤ (I 0 3) → vp_in (0 : Int32) 43 ∧ (((I 13 (0 : Int32).toNatClampNeg) ≤ 0 → P (0 : Int32) I L) ∧ (¬ (I 13 (0 : Int32).toNatClampNeg) ≤ 0 → P (1 : Int32) I L))) ∧ (¬ (I 0 2) ≤ (I 0 3) → vp_in (I 0 3) 110 ∧ ((¬ (I 1 (I 0 3).toNatClampNeg) = (46 : Int32) → zp_X8_isNext (97 : Int32) (0 : Int32) (5 : Int32) (fun r45 => (r45 = 0 → zp_X8_isNext (48 : Int32) (1 : Int32) (9 : Int32) (fun r72 => (r72 = 0 → zp_X8_readLine_85 K10 P (-9 : Int32) I L) ∧ (¬ r72 = 0 → zp_X8_readLine_85 K10 P (7 : Int32) I L)) I L) ∧ (¬ r45 = 0 → vp_in (I 0 3) 110 ∧ (zp_X8_readLine_85 K10 P ((I 1 (I 0 3).toNatClampNeg) - (97 : Int32)) I L))) I L) ∧ ((I 1 (I 0 3).toNatClampNeg) = (46 : Int32) → zp_X8_readLine_85 K10 P (6 : Int32) I L)))
set_option maxHeartbeats 4000000 in
set_option maxRecDepth 100000 in
theorem zq_X8_readLine_10b {p : Program} {l : Launch} {e : Env} {s : State} {m : MethodId} {args : Array Value} {below : List Frame} {meth : Method} {c : Code} {D : va_G} {ca : Nat → ClassId} {A : Nat → Prop} {a : Nat → Nat} {K10 : zz_I → zz_L → Prop} {P : Int32 → zz_I → zz_L → Prop} {I : zz_I} {L : zz_L}  (X : zz_X p s m meth c cX8_readLine RX8 (some .boolean) 4) (hA : ∀ q, s.heap.size ≤ q → A q)  (hK10 : ∀  (I8 : zz_I) (L8 : zz_L), K10 I8 L8 → zz_Go p l e ({ frames := 2, cells := 0, slots := 0, locals := 48 } : Room) s m args below meth c 0 0 (MQ below (zz_Qi D ca zz_dM A a P) args s 0 0 A) D ca zz_dM A 4 10 a [] [(0, .ref (a 0))] I8 L8) (h : zp_X8_readLine_10b K10 P  I L) : zz_Go p l e ({ frames := 2, cells := 0, slots := 0, locals := 48 } : Room) s m args below meth c 0 0 (MQ below (zz_Qi D ca zz_dM A a P) args s 0 0 A) D ca zz_dM A 4 10 a [] [(0, .ref (a 0))] I L := by
  obtain ⟨hx, hb, hml, hown, zw, hr, hlocks⟩ := id X
  intro H locs ls hB hl
  unfold zp_X8_readLine_10b at h
  refine lv_aload_n hx hb dX8_readLine_10 rfl (lv_at hl 0 rfl) ?_
  refine zz_geti hx hb hown zw hB zF_X8_110 zdM_0 rfl dX8_readLine_11 ?_
  refine lv_aload_n hx hb dX8_readLine_14 rfl (lv_at hl 0 rfl) ?_
  refine zz_geti hx hb hown zw hB zF_X8_107 zdM_0 rfl dX8_readLine_15 ?_
  refine lv_icmp_ge (tgt := 213) hx hb dX8_readLine_18 (by decide) (fun c18 => ?_) (fun c18 => ?_)
  · have h := h.1 c18
    refine lv_aload_n hx hb dX8_readLine_213 rfl (lv_at hl 0 rfl) ?_
    refine zz_getr (k' := 13) hx hb hown zw hB zF_X8_47 zdM_0 rfl rfl dX8_readLine_214 ?_
    refine lv_iconst (v := (0 : Int32)) hx hb dX8_readLine_217 (by decide) ?_
    obtain ⟨hi218, h⟩ := h
    refine zz_iald hx hb hB zdM_13 hi218 dX8_readLine_218 ?_
    refine lv_if_le (tgt := 226) hx hb dX8_readLine_219 (by decide) (fun c219 => ?_) (fun c219 => ?_)
    · have h := h.1 c219
      refine lv_iconst (v := (0 : Int32)) hx hb dX8_readLine_226 (by decide) ?_
      exact zz_zret hx hb hr hlocks zz_bool0 hB h dX8_readLine_227
    · have h := h.2 c219
      refine lv_iconst (v := (1 : Int32)) hx hb dX8_readLine_222 (by decide) ?_
      refine lv_goto (tgt := 227) hx hb dX8_readLine_223 (by decide) ?_
      exact zz_zret hx hb hr hlocks zz_bool1 hB h dX8_readLine_227
  · have h := h.2 c18
    refine lv_aload_n hx hb dX8_readLine_21 rfl (lv_at hl 0 rfl) ?_
    refine zz_getr (k' := 1) hx hb hown zw hB zF_X8_7 zdM_0 rfl rfl dX8_readLine_22 ?_
    refine lv_aload_n hx hb dX8_readLine_25 rfl (lv_at hl 0 rfl) ?_
    refine zz_geti hx hb hown zw hB zF_X8_110 zdM_0 rfl dX8_readLine_26 ?_
    obtain ⟨hi29, h⟩ := h
    refine zz_iald hx hb hB zdM_1 hi29 dX8_readLine_29 ?_
    refine lv_bipush (v := (46 : Int32)) hx hb dX8_readLine_30 (by decide) ?_
    refine lv_icmp_ne (tgt := 40) hx hb dX8_readLine_32 (by decide) (fun c32 => ?_) (fun c32 => ?_)
    · have h := h.1 c32
      refine lv_aload_n hx hb dX8_readLine_40 rfl (lv_at hl 0 rfl) ?_
      refine lv_bipush (v := (97 : Int32)) hx hb dX8_readLine_41 (by decide) ?_
      refine lv_iconst (v := (0 : Int32)) hx hb dX8_readLine_43 (by decide) ?_
      refine lv_iconst (v := (5 : Int32)) hx hb dX8_readLine_44 (by decide) ?_
      refine zz_goip hB hA (zz_runV (As := [.int (97 : Int32), .int (0 : Int32), .int (5 : Int32)]) (rest := []) hx hb hml hown zw hB zM_X8_116 (zc_X8_isNext l D ca a I L H.size h) zdM_0 rfl rfl hl.1 rfl (Nat.le_of_ble_eq_true rfl) rfl rfl ⟨Nat.le_of_ble_eq_true rfl, Nat.le_of_ble_eq_true rfl⟩ dX8_readLine_45 ⟨Nat.le_of_ble_eq_true rfl, Nat.le_of_ble_eq_true rfl⟩) (fun r45 H locs h hB => ?_)
      refine lv_if_eq (tgt := 66) hx hb dX8_readLine_48 (by decide) (fun c48 => ?_) (fun c48 => ?_)
      · have h := h.1 c48
        refine lv_aload_n hx hb dX8_readLine_66 rfl (lv_at hl 0 rfl) ?_
        refine lv_bipush (v := (48 : Int32)) hx hb dX8_readLine_67 (by decide) ?_
        refine lv_iconst (v := (1 : Int32)) hx hb dX8_readLine_69 (by decide) ?_
        refine lv_bipush (v := (9 : Int32)) hx hb dX8_readLine_70 (by decide) ?_
        refine zz_goip hB hA (zz_runV (As := [.int (48 : Int32), .int (1 : Int32), .int (9 : Int32)]) (rest := []) hx hb hml hown zw hB zM_X8_116 (zc_X8_isNext l D ca a I L H.size h) zdM_0 rfl rfl hl.1 rfl (Nat.le_of_ble_eq_true rfl) rfl rfl ⟨Nat.le_of_ble_eq_true rfl, Nat.le_of_ble_eq_true rfl⟩ dX8_readLine_72 ⟨Nat.le_of_ble_eq_true rfl, Nat.le_of_ble_eq_true rfl⟩) (fun r72 H locs h hB => ?_)
        refine lv_if_eq (tgt := 83) hx hb dX8_readLine_75 (by decide) (fun c75 => ?_) (fun c75 => ?_)
        · have h := h.1 c75
          refine lv_bipush (v := (-9 : Int32)) hx hb dX8_readLine_83 (by decide) ?_
          exact zq_X8_readLine_85 X hA hK10 h H locs ls hB (lv_sub hl [0] rfl)
        · have h := h.2 c75
          refine lv_bipush (v := (7 : Int32)) hx hb dX8_readLine_78 (by decide) ?_
          refine lv_goto (tgt := 85) hx hb dX8_readLine_80 (by decide) ?_
          exact zq_X8_readLine_85 X hA hK10 h H locs ls hB (lv_sub hl [0] rfl)
      · have h := h.2 c48
        refine lv_aload_n hx hb dX8_readLine_51 rfl (lv_at hl 0 rfl) ?_
        refine zz_getr (k' := 1) hx hb hown zw hB zF_X8_7 zdM_0 rfl rfl dX8_readLine_52 ?_
        refine lv_aload_n hx hb dX8_readLine_55 rfl (lv_at hl 0 rfl) ?_
        refine zz_geti hx hb hown zw hB zF_X8_110 zdM_0 rfl dX8_readLine_56 ?_
        obtain ⟨hi59, h⟩ := h
        refine zz_iald hx hb hB zdM_1 hi59 dX8_readLine_59 ?_
        refine lv_bipush (v := (97 : Int32)) hx hb dX8_readLine_60 (by decide) ?_
        refine lv_isub hx hb dX8_readLine_62 ?_
        refine lv_goto (tgt := 85) hx hb dX8_readLine_63 (by decide) ?_
        exact zq_X8_readLine_85 X hA hK10 h H locs ls hB (lv_sub hl [0] rfl)
    · have h := h.2 c32
      refine lv_bipush (v := (6 : Int32)) hx hb dX8_readLine_35 (by decide) ?_
      refine lv_goto (tgt := 85) hx hb dX8_readLine_37 (by decide) ?_
      exact zq_X8_readLine_85 X hA hK10 h H locs ls hB (lv_sub hl [0] rfl)
def zp_X8_readLine_10  (P : Int32 → zz_I → zz_L → Prop)  (I : zz_I) (L : zz_L) : Prop := ∃ (Inv : zz_I → zz_L → Prop) (μ : zz_I → zz_L → Nat), Inv I L ∧ ∀  (I8 : zz_I) (L8 : zz_L), Inv I8 L8 → zp_X8_readLine_10b  (fun I7 L7 => Inv I7 L7 ∧ μ I7 L7 < μ I8 L8) P  I8 L8
set_option maxHeartbeats 4000000 in
set_option maxRecDepth 100000 in
theorem zq_X8_readLine_10 {p : Program} {l : Launch} {e : Env} {s : State} {m : MethodId} {args : Array Value} {below : List Frame} {meth : Method} {c : Code} {D : va_G} {ca : Nat → ClassId} {A : Nat → Prop} {a : Nat → Nat}  {P : Int32 → zz_I → zz_L → Prop} {I : zz_I} {L : zz_L}  (X : zz_X p s m meth c cX8_readLine RX8 (some .boolean) 4) (hA : ∀ q, s.heap.size ≤ q → A q)   (h : zp_X8_readLine_10  P  I L) : zz_Go p l e ({ frames := 2, cells := 0, slots := 0, locals := 48 } : Room) s m args below meth c 0 0 (MQ below (zz_Qi D ca zz_dM A a P) args s 0 0 A) D ca zz_dM A 4 10 a [] [(0, .ref (a 0))] I L := by
  unfold zp_X8_readLine_10 at h
  obtain ⟨Inv, μ, hv0, hs⟩ := h
  have key : ∀ (n9 : Nat)  (I8 : zz_I) (L8 : zz_L), μ I8 L8 < n9 → Inv I8 L8 → zz_Go p l e ({ frames := 2, cells := 0, slots := 0, locals := 48 } : Room) s m args below meth c 0 0 (MQ below (zz_Qi D ca zz_dM A a P) args s 0 0 A) D ca zz_dM A 4 10 a [] [(0, .ref (a 0))] I8 L8 := by
    intro n9
    induction n9 with
    | zero => intro I8 L8 hn; exact absurd hn (Nat.not_lt_zero _)
    | succ n9 ih =>
      intro I8 L8 hn hi
      exact zq_X8_readLine_10b (K10 := (fun I7 L7 => Inv I7 L7 ∧ μ I7 L7 < μ I8 L8)) X hA   (fun I7 L7 hz => ih I7 L7 (Nat.lt_of_lt_of_le hz.2 (Nat.le_of_lt_succ hn)) hz.1) (hs I8 L8 hi)
  exact key _ I L (Nat.lt_succ_self _) hv0
def zp_X8_readLine  (P : Int32 → zz_I → zz_L → Prop) (I : zz_I) (L : zz_L) : Prop := ∀ I7 : zz_I, I7 = zz_up I 0 3 ((I 0 3) + (1 : Int32)) → (zp_X8_readLine_10 P I7 L)
set_option maxHeartbeats 4000000 in
set_option maxRecDepth 100000 in
theorem zq_X8_readLine {p : Program} {l : Launch} {e : Env} {s : State} {m : MethodId} {args : Array Value} {below : List Frame} {meth : Method} {c : Code} {D : va_G} {ca : Nat → ClassId} {A : Nat → Prop} {a : Nat → Nat}  {P : Int32 → zz_I → zz_L → Prop} {I : zz_I} {L : zz_L}  (X : zz_X p s m meth c cX8_readLine RX8 (some .boolean) 4) (hA : ∀ q, s.heap.size ≤ q → A q)   (h : zp_X8_readLine  P I L) : zz_Go p l e ({ frames := 2, cells := 0, slots := 0, locals := 48 } : Room) s m args below meth c 0 0 (MQ below (zz_Qi D ca zz_dM A a P) args s 0 0 A) D ca zz_dM A 4 0 a [] [(0, .ref (a 0))] I L := by
  obtain ⟨hx, hb, hml, hown, zw, hr, hlocks⟩ := id X
  intro H locs ls hB hl
  unfold zp_X8_readLine at h
  refine lv_aload_n hx hb dX8_readLine_0 rfl (lv_at hl 0 rfl) ?_
  refine lv_dup hx hb dX8_readLine_1 rfl ?_
  refine zz_geti hx hb hown zw hB zF_X8_110 zdM_0 rfl dX8_readLine_2 ?_
  refine lv_iconst (v := (1 : Int32)) hx hb dX8_readLine_5 (by decide) ?_
  refine lv_iadd hx hb dX8_readLine_6 ?_
  refine zz_puti hx hb hown zw hB zP_X8_110 zdM_0 rfl dX8_readLine_7 (fun H locs hB => ?_)
  obtain ⟨I7, eI7⟩ : ∃ z : zz_I, z = zz_up I 0 3 ((I 0 3) + (1 : Int32)) := ⟨_, rfl⟩
  rw [← eI7] at hB
  have h := h I7 eI7
  exact zq_X8_readLine_10 X hA  h H locs ls hB (lv_sub hl [0] rfl)
theorem zc_X8_readLine (l : Launch) (D : va_G) (ca : Nat → ClassId) (a : Nat → Nat) (I : zz_I) (L : zz_L) (sz : Nat)  {P : Int32 → zz_I → zz_L → Prop}  (h : zp_X8_readLine  P I L) : Met l yX8_readLine [.code yX8_readLine cX8_readLine 4 (some .boolean)] ({ frames := 2, cells := 0, slots := 0, locals := 48 } : Room) (zz_Pre D ca zz_dM [.ref (a 0)] a I L sz) (zz_Qi D ca zz_dM (zz_A ca zz_dM a I L sz) a P) 0 0 (zz_A ca zz_dM a I L sz) :=
  zz_start (by decide) (Nat.le_of_ble_eq_true rfl) (fun p e s m below meth c X hsz hA => zq_X8_readLine X hA  h)
def zp_X8_readPart  (P : Int32 → zz_I → zz_L → Prop) (I : zz_I) (L : zz_L) : Prop := vp_in (I 0 3) 110 ∧ (∀ w9 : Int32, w9 = I 1 (I 0 3).toNatClampNeg → ((w9 = (100 : Int32) → zp_X8_readWord  (fun r45 I45 L45 => zz_bool r45 ∧ (P r45 I45 L45)) I L) ∧ (w9 = (108 : Int32) → zp_X8_readLine  (fun r55 I55 L55 => zz_bool r55 ∧ (P r55 I55 L55)) I L) ∧ (w9 = (114 : Int32) → zp_X8_readOneRule  (fun r50 I50 L50 => zz_bool r50 ∧ (P r50 I50 L50)) I L) ∧ (¬ w9 = (100 : Int32) → ¬ w9 = (108 : Int32) → ¬ w9 = (114 : Int32) → P (0 : Int32) I L)))
set_option maxHeartbeats 4000000 in
set_option maxRecDepth 100000 in
theorem zq_X8_readPart {p : Program} {l : Launch} {e : Env} {s : State} {m : MethodId} {args : Array Value} {below : List Frame} {meth : Method} {c : Code} {D : va_G} {ca : Nat → ClassId} {A : Nat → Prop} {a : Nat → Nat}  {P : Int32 → zz_I → zz_L → Prop} {I : zz_I} {L : zz_L}  (X : zz_X p s m meth c cX8_readPart RX8 (some .boolean) 1) (hA : ∀ q, s.heap.size ≤ q → A q)   (h : zp_X8_readPart  P I L) : zz_Go p l e ({ frames := 3, cells := 0, slots := 0, locals := 71 } : Room) s m args below meth c 0 0 (MQ below (zz_Qi D ca zz_dM A a P) args s 0 0 A) D ca zz_dM A 1 0 a [] [(0, .ref (a 0))] I L := by
  obtain ⟨hx, hb, hml, hown, zw, hr, hlocks⟩ := id X
  intro H locs ls hB hl
  unfold zp_X8_readPart at h
  refine lv_aload_n hx hb dX8_readPart_0 rfl (lv_at hl 0 rfl) ?_
  refine zz_getr (k' := 1) hx hb hown zw hB zF_X8_7 zdM_0 rfl rfl dX8_readPart_1 ?_
  refine lv_aload_n hx hb dX8_readPart_4 rfl (lv_at hl 0 rfl) ?_
  refine zz_geti hx hb hown zw hB zF_X8_110 zdM_0 rfl dX8_readPart_5 ?_
  obtain ⟨hi8, h⟩ := h
  refine zz_iald hx hb hB zdM_1 hi8 dX8_readPart_8 ?_
  refine lv_topi (fun w9 ew9 => ?_)
  have h := h w9 ew9
  by_cases q9_100 : w9 = (100 : Int32)
  · have h := h.1 q9_100
    refine lv_lookup (tgt := 44) hx hb dX8_readPart_9 (by decide) (by rw [q9_100] <;> rfl) (by decide) ?_
    refine lv_aload_n hx hb dX8_readPart_44 rfl (lv_at hl 0 rfl) ?_
    refine zz_goi hB hA (zz_runV (As := []) (rest := []) hx hb hml hown zw hB zM_X8_124 (zc_X8_readWord l D ca a I L H.size h) zdM_0 rfl rfl hl.1 rfl (Nat.le_of_ble_eq_true rfl) rfl rfl ⟨Nat.le_of_ble_eq_true rfl, Nat.le_of_ble_eq_true rfl⟩ dX8_readPart_45 ⟨Nat.le_of_ble_eq_true rfl, Nat.le_of_ble_eq_true rfl⟩) (fun r45 I45 L45 H locs h hB => ?_)
    obtain ⟨hz48, h⟩ := h
    exact zz_zret hx hb hr hlocks hz48 hB h dX8_readPart_48
  by_cases q9_108 : w9 = (108 : Int32)
  · have h := h.2.1 q9_108
    refine lv_lookup (tgt := 54) hx hb dX8_readPart_9 (by decide) (by rw [q9_108] <;> rfl) (by decide) ?_
    refine lv_aload_n hx hb dX8_readPart_54 rfl (lv_at hl 0 rfl) ?_
    refine zz_goi hB hA (zz_runV (As := []) (rest := []) hx hb hml hown zw hB zM_X8_131 (zc_X8_readLine l D ca a I L H.size h) zdM_0 rfl rfl hl.1 rfl (Nat.le_of_ble_eq_true rfl) rfl rfl ⟨Nat.le_of_ble_eq_true rfl, Nat.le_of_ble_eq_true rfl⟩ dX8_readPart_55 ⟨Nat.le_of_ble_eq_true rfl, Nat.le_of_ble_eq_true rfl⟩) (fun r55 I55 L55 H locs h hB => ?_)
    obtain ⟨hz58, h⟩ := h
    exact zz_zret hx hb hr hlocks hz58 hB h dX8_readPart_58
  by_cases q9_114 : w9 = (114 : Int32)
  · have h := h.2.2.1 q9_114
    refine lv_lookup (tgt := 49) hx hb dX8_readPart_9 (by decide) (by rw [q9_114] <;> rfl) (by decide) ?_
    refine lv_aload_n hx hb dX8_readPart_49 rfl (lv_at hl 0 rfl) ?_
    refine zz_goi hB hA (zz_runV (As := []) (rest := []) hx hb hml hown zw hB zM_X8_128 (zc_X8_readOneRule l D ca a I L H.size h) zdM_0 rfl rfl hl.1 rfl (Nat.le_of_ble_eq_true rfl) rfl rfl ⟨Nat.le_of_ble_eq_true rfl, Nat.le_of_ble_eq_true rfl⟩ dX8_readPart_50 ⟨Nat.le_of_ble_eq_true rfl, Nat.le_of_ble_eq_true rfl⟩) (fun r50 I50 L50 H locs h hB => ?_)
    obtain ⟨hz53, h⟩ := h
    exact zz_zret hx hb hr hlocks hz53 hB h dX8_readPart_53
  have h := h.2.2.2 q9_100 q9_108 q9_114
  refine lv_lookup (off := 50) (tgt := 59) hx hb dX8_readPart_9 (by decide) ((lv_osw q9_100 rfl).trans ((lv_osw q9_108 rfl).trans ((lv_osw q9_114 rfl).trans (rfl)))) (by decide) ?_
  refine lv_iconst (v := (0 : Int32)) hx hb dX8_readPart_59 (by decide) ?_
  exact zz_zret hx hb hr hlocks zz_bool0 hB h dX8_readPart_60
theorem zc_X8_readPart (l : Launch) (D : va_G) (ca : Nat → ClassId) (a : Nat → Nat) (I : zz_I) (L : zz_L) (sz : Nat)  {P : Int32 → zz_I → zz_L → Prop}  (h : zp_X8_readPart  P I L) : Met l yX8_readPart [.code yX8_readPart cX8_readPart 1 (some .boolean)] ({ frames := 3, cells := 0, slots := 0, locals := 71 } : Room) (zz_Pre D ca zz_dM [.ref (a 0)] a I L sz) (zz_Qi D ca zz_dM (zz_A ca zz_dM a I L sz) a P) 0 0 (zz_A ca zz_dM a I L sz) :=
  zz_start (by decide) (Nat.le_of_ble_eq_true rfl) (fun p e s m below meth c X hsz hA => zq_X8_readPart X hA  h)
def zp_X8_readStone_124b (K124 : zz_I → zz_L → Prop) (P : Int32 → zz_I → zz_L → Prop)  (I : zz_I) (L : zz_L) : Prop := ((I 0 2) ≤ (I 0 3) → P (-9 : Int32) I L) ∧ (¬ (I 0 2) ≤ (I 0 3) → zp_X8_readPart  (fun r136 I136 L136 => (¬ r136 = 0 → K124 I136 L136) ∧ (r136 = 0 → P (I136 0 3) I136 L136)) I L)
set_option maxHeartbeats 4000000 in
set_option maxRecDepth 100000 in
theorem zq_X8_readStone_124b {p : Program} {l : Launch} {e : Env} {s : State} {m : MethodId} {args : Array Value} {below : List Frame} {meth : Method} {c : Code} {D : va_G} {ca : Nat → ClassId} {A : Nat → Prop} {a : Nat → Nat} {K124 : zz_I → zz_L → Prop} {P : Int32 → zz_I → zz_L → Prop} {I : zz_I} {L : zz_L}  (X : zz_X p s m meth c cX8_readStone RX8 (some .int) 2) (hA : ∀ q, s.heap.size ≤ q → A q)  (hK124 : ∀  (I8 : zz_I) (L8 : zz_L), K124 I8 L8 → zz_Go p l e ({ frames := 4, cells := 0, slots := 0, locals := 91 } : Room) s m args below meth c 0 0 (MQ below (zz_Qi D ca zz_dM A a P) args s 0 0 A) D ca zz_dM A 2 124 a [] [(0, .ref (a 0))] I8 L8) (h : zp_X8_readStone_124b K124 P  I L) : zz_Go p l e ({ frames := 4, cells := 0, slots := 0, locals := 91 } : Room) s m args below meth c 0 0 (MQ below (zz_Qi D ca zz_dM A a P) args s 0 0 A) D ca zz_dM A 2 124 a [] [(0, .ref (a 0))] I L := by
  obtain ⟨hx, hb, hml, hown, zw, hr, hlocks⟩ := id X
  intro H locs ls hB hl
  unfold zp_X8_readStone_124b at h
  refine lv_aload_n hx hb dX8_readStone_124 rfl (lv_at hl 0 rfl) ?_
  refine zz_geti hx hb hown zw hB zF_X8_110 zdM_0 rfl dX8_readStone_125 ?_
  refine lv_aload_n hx hb dX8_readStone_128 rfl (lv_at hl 0 rfl) ?_
  refine zz_geti hx hb hown zw hB zF_X8_107 zdM_0 rfl dX8_readStone_129 ?_
  refine lv_icmp_ge (tgt := 147) hx hb dX8_readStone_132 (by decide) (fun c132 => ?_) (fun c132 => ?_)
  · have h := h.1 c132
    refine lv_bipush (v := (-9 : Int32)) hx hb dX8_readStone_147 (by decide) ?_
    exact zz_iret hx hb hr hlocks hB h dX8_readStone_149
  · have h := h.2 c132
    refine lv_aload_n hx hb dX8_readStone_135 rfl (lv_at hl 0 rfl) ?_
    refine zz_goi hB hA (zz_runV (As := []) (rest := []) hx hb hml hown zw hB zM_X8_134 (zc_X8_readPart l D ca a I L H.size h) zdM_0 rfl rfl hl.1 rfl (Nat.le_of_ble_eq_true rfl) rfl rfl ⟨Nat.le_of_ble_eq_true rfl, Nat.le_of_ble_eq_true rfl⟩ dX8_readStone_136 ⟨Nat.le_of_ble_eq_true rfl, Nat.le_of_ble_eq_true rfl⟩) (fun r136 I136 L136 H locs h hB => ?_)
    refine lv_if_ne (tgt := 124) hx hb dX8_readStone_139 (by decide) (fun c139 => ?_) (fun c139 => ?_)
    · have h := h.1 c139
      exact hK124 _ _ h H locs ls hB (lv_sub hl [0] rfl)
    · have h := h.2 c139
      refine lv_aload_n hx hb dX8_readStone_142 rfl (lv_at hl 0 rfl) ?_
      refine zz_geti hx hb hown zw hB zF_X8_110 zdM_0 rfl dX8_readStone_143 ?_
      exact zz_iret hx hb hr hlocks hB h dX8_readStone_146
def zp_X8_readStone_124  (P : Int32 → zz_I → zz_L → Prop)  (I : zz_I) (L : zz_L) : Prop := ∃ (Inv : zz_I → zz_L → Prop) (μ : zz_I → zz_L → Nat), Inv I L ∧ ∀  (I8 : zz_I) (L8 : zz_L), Inv I8 L8 → zp_X8_readStone_124b  (fun I7 L7 => Inv I7 L7 ∧ μ I7 L7 < μ I8 L8) P  I8 L8
set_option maxHeartbeats 4000000 in
set_option maxRecDepth 100000 in
theorem zq_X8_readStone_124 {p : Program} {l : Launch} {e : Env} {s : State} {m : MethodId} {args : Array Value} {below : List Frame} {meth : Method} {c : Code} {D : va_G} {ca : Nat → ClassId} {A : Nat → Prop} {a : Nat → Nat}  {P : Int32 → zz_I → zz_L → Prop} {I : zz_I} {L : zz_L}  (X : zz_X p s m meth c cX8_readStone RX8 (some .int) 2) (hA : ∀ q, s.heap.size ≤ q → A q)   (h : zp_X8_readStone_124  P  I L) : zz_Go p l e ({ frames := 4, cells := 0, slots := 0, locals := 91 } : Room) s m args below meth c 0 0 (MQ below (zz_Qi D ca zz_dM A a P) args s 0 0 A) D ca zz_dM A 2 124 a [] [(0, .ref (a 0))] I L := by
  unfold zp_X8_readStone_124 at h
  obtain ⟨Inv, μ, hv0, hs⟩ := h
  have key : ∀ (n9 : Nat)  (I8 : zz_I) (L8 : zz_L), μ I8 L8 < n9 → Inv I8 L8 → zz_Go p l e ({ frames := 4, cells := 0, slots := 0, locals := 91 } : Room) s m args below meth c 0 0 (MQ below (zz_Qi D ca zz_dM A a P) args s 0 0 A) D ca zz_dM A 2 124 a [] [(0, .ref (a 0))] I8 L8 := by
    intro n9
    induction n9 with
    | zero => intro I8 L8 hn; exact absurd hn (Nat.not_lt_zero _)
    | succ n9 ih =>
      intro I8 L8 hn hi
      exact zq_X8_readStone_124b (K124 := (fun I7 L7 => Inv I7 L7 ∧ μ I7 L7 < μ I8 L8)) X hA   (fun I7 L7 hz => ih I7 L7 (Nat.lt_of_lt_of_le hz.2 (Nat.le_of_lt_succ hn)) hz.1) (hs I8 L8 hi)
  exact key _ I L (Nat.lt_succ_self _) hv0
def zp_X8_readStone_60b (K60 : Int32 → zz_I → zz_L → Prop) (P : Int32 → zz_I → zz_L → Prop) (x1 : Int32) (I : zz_I) (L : zz_L) : Prop := ((6 : Int32) ≤ x1 → vp_in (6 : Int32) 7 ∧ (∀ I123 : zz_I, I123 = zz_up I 7 (6 : Int32).toNatClampNeg (1 : Int32) → (zp_X8_readStone_124 P I123 L))) ∧ (¬ (6 : Int32) ≤ x1 → zp_X8_isNext (48 : Int32) (1 : Int32) (3 : Int32) (fun r71 => (¬ r71 = 0 → vp_in (I 0 3) 110 ∧ (vp_in x1 7 ∧ (∀ I99 : zz_I, I99 = zz_up I 7 x1.toNatClampNeg ((I 1 (I 0 3).toNatClampNeg) - (48 : Int32)) → (∀ I107 : zz_I, I107 = zz_up I99 0 3 ((I99 0 3) + (1 : Int32)) → (∀ v110 : Int32, v110 = x1 + (1 : Int32) → (K60 v110 I107 L)))))) ∧ (r71 = 0 → P (I 0 3) I L)) I L)
set_option maxHeartbeats 4000000 in
set_option maxRecDepth 100000 in
theorem zq_X8_readStone_60b {p : Program} {l : Launch} {e : Env} {s : State} {m : MethodId} {args : Array Value} {below : List Frame} {meth : Method} {c : Code} {D : va_G} {ca : Nat → ClassId} {A : Nat → Prop} {a : Nat → Nat} {K60 : Int32 → zz_I → zz_L → Prop} {P : Int32 → zz_I → zz_L → Prop} {I : zz_I} {L : zz_L} {x1 : Int32} (X : zz_X p s m meth c cX8_readStone RX8 (some .int) 2) (hA : ∀ q, s.heap.size ≤ q → A q)  (hK60 : ∀ (y1 : Int32) (I8 : zz_I) (L8 : zz_L), K60 y1 I8 L8 → zz_Go p l e ({ frames := 4, cells := 0, slots := 0, locals := 91 } : Room) s m args below meth c 0 0 (MQ below (zz_Qi D ca zz_dM A a P) args s 0 0 A) D ca zz_dM A 2 60 a [] [(0, .ref (a 0)), (1, .int y1)] I8 L8) (h : zp_X8_readStone_60b K60 P x1 I L) : zz_Go p l e ({ frames := 4, cells := 0, slots := 0, locals := 91 } : Room) s m args below meth c 0 0 (MQ below (zz_Qi D ca zz_dM A a P) args s 0 0 A) D ca zz_dM A 2 60 a [] [(0, .ref (a 0)), (1, .int x1)] I L := by
  obtain ⟨hx, hb, hml, hown, zw, hr, hlocks⟩ := id X
  intro H locs ls hB hl
  unfold zp_X8_readStone_60b at h
  refine lv_iload_n hx hb dX8_readStone_60 rfl (lv_at hl 1 rfl) ?_
  refine lv_bipush (v := (6 : Int32)) hx hb dX8_readStone_61 (by decide) ?_
  refine lv_icmp_ge (tgt := 116) hx hb dX8_readStone_63 (by decide) (fun c63 => ?_) (fun c63 => ?_)
  · have h := h.1 c63
    refine lv_aload_n hx hb dX8_readStone_116 rfl (lv_at hl 0 rfl) ?_
    refine zz_getr (k' := 7) hx hb hown zw hB zF_X8_28 zdM_0 rfl rfl dX8_readStone_117 ?_
    refine lv_bipush (v := (6 : Int32)) hx hb dX8_readStone_120 (by decide) ?_
    refine lv_iconst (v := (1 : Int32)) hx hb dX8_readStone_122 (by decide) ?_
    obtain ⟨hi123, h⟩ := h
    refine zz_iast hx hb hB zdM_7 hi123 dX8_readStone_123 (fun H locs hB => ?_)
    obtain ⟨I123, eI123⟩ : ∃ z : zz_I, z = zz_up I 7 (6 : Int32).toNatClampNeg (1 : Int32) := ⟨_, rfl⟩
    rw [← eI123] at hB
    have h := h I123 eI123
    exact zq_X8_readStone_124 X hA  h H locs ls hB (lv_sub hl [0] rfl)
  · have h := h.2 c63
    refine lv_aload_n hx hb dX8_readStone_66 rfl (lv_at hl 0 rfl) ?_
    refine lv_bipush (v := (48 : Int32)) hx hb dX8_readStone_67 (by decide) ?_
    refine lv_iconst (v := (1 : Int32)) hx hb dX8_readStone_69 (by decide) ?_
    refine lv_iconst (v := (3 : Int32)) hx hb dX8_readStone_70 (by decide) ?_
    refine zz_goip hB hA (zz_runV (As := [.int (48 : Int32), .int (1 : Int32), .int (3 : Int32)]) (rest := []) hx hb hml hown zw hB zM_X8_116 (zc_X8_isNext l D ca a I L H.size h) zdM_0 rfl rfl hl.1 rfl (Nat.le_of_ble_eq_true rfl) rfl rfl ⟨Nat.le_of_ble_eq_true rfl, Nat.le_of_ble_eq_true rfl⟩ dX8_readStone_71 ⟨Nat.le_of_ble_eq_true rfl, Nat.le_of_ble_eq_true rfl⟩) (fun r71 H locs h hB => ?_)
    refine lv_if_ne (tgt := 82) hx hb dX8_readStone_74 (by decide) (fun c74 => ?_) (fun c74 => ?_)
    · have h := h.1 c74
      refine lv_aload_n hx hb dX8_readStone_82 rfl (lv_at hl 0 rfl) ?_
      refine zz_getr (k' := 7) hx hb hown zw hB zF_X8_28 zdM_0 rfl rfl dX8_readStone_83 ?_
      refine lv_iload_n hx hb dX8_readStone_86 rfl (lv_at hl 1 rfl) ?_
      refine lv_aload_n hx hb dX8_readStone_87 rfl (lv_at hl 0 rfl) ?_
      refine zz_getr (k' := 1) hx hb hown zw hB zF_X8_7 zdM_0 rfl rfl dX8_readStone_88 ?_
      refine lv_aload_n hx hb dX8_readStone_91 rfl (lv_at hl 0 rfl) ?_
      refine zz_geti hx hb hown zw hB zF_X8_110 zdM_0 rfl dX8_readStone_92 ?_
      obtain ⟨hi95, h⟩ := h
      refine zz_iald hx hb hB zdM_1 hi95 dX8_readStone_95 ?_
      refine lv_bipush (v := (48 : Int32)) hx hb dX8_readStone_96 (by decide) ?_
      refine lv_isub hx hb dX8_readStone_98 ?_
      obtain ⟨hi99, h⟩ := h
      refine zz_iast hx hb hB zdM_7 hi99 dX8_readStone_99 (fun H locs hB => ?_)
      obtain ⟨I99, eI99⟩ : ∃ z : zz_I, z = zz_up I 7 x1.toNatClampNeg ((I 1 (I 0 3).toNatClampNeg) - (48 : Int32)) := ⟨_, rfl⟩
      rw [← eI99] at hB
      have h := h I99 eI99
      refine lv_aload_n hx hb dX8_readStone_100 rfl (lv_at hl 0 rfl) ?_
      refine lv_dup hx hb dX8_readStone_101 rfl ?_
      refine zz_geti hx hb hown zw hB zF_X8_110 zdM_0 rfl dX8_readStone_102 ?_
      refine lv_iconst (v := (1 : Int32)) hx hb dX8_readStone_105 (by decide) ?_
      refine lv_iadd hx hb dX8_readStone_106 ?_
      refine zz_puti hx hb hown zw hB zP_X8_110 zdM_0 rfl dX8_readStone_107 (fun H locs hB => ?_)
      obtain ⟨I107, eI107⟩ : ∃ z : zz_I, z = zz_up I99 0 3 ((I99 0 3) + (1 : Int32)) := ⟨_, rfl⟩
      rw [← eI107] at hB
      have h := h I107 eI107
      obtain ⟨v110, ev110⟩ : ∃ z : Int32, z = x1 + (1 : Int32) := ⟨_, rfl⟩
      have h := h v110 ev110
      refine lv_iinc (v := v110) (lv' := [(1, .int v110), (0, .ref (a 0))]) hx hb dX8_readStone_110 hl (k := 1) rfl (by rw [ev110]; rfl) (by decide) rfl (fun ls hl => ?_)
      refine lv_goto (tgt := 60) hx hb dX8_readStone_113 (by decide) ?_
      exact hK60 _ _ _ h H locs ls hB (lv_sub hl [1, 0] rfl)
    · have h := h.2 c74
      refine lv_aload_n hx hb dX8_readStone_77 rfl (lv_at hl 0 rfl) ?_
      refine zz_geti hx hb hown zw hB zF_X8_110 zdM_0 rfl dX8_readStone_78 ?_
      exact zz_iret hx hb hr hlocks hB h dX8_readStone_81
def zp_X8_readStone_60  (P : Int32 → zz_I → zz_L → Prop) (x1 : Int32) (I : zz_I) (L : zz_L) : Prop := ∃ (Inv : Int32 → zz_I → zz_L → Prop) (μ : Int32 → zz_I → zz_L → Nat), Inv x1 I L ∧ ∀ (y1 : Int32) (I8 : zz_I) (L8 : zz_L), Inv y1 I8 L8 → zp_X8_readStone_60b  (fun z1 I7 L7 => Inv z1 I7 L7 ∧ μ z1 I7 L7 < μ y1 I8 L8) P y1 I8 L8
set_option maxHeartbeats 4000000 in
set_option maxRecDepth 100000 in
theorem zq_X8_readStone_60 {p : Program} {l : Launch} {e : Env} {s : State} {m : MethodId} {args : Array Value} {below : List Frame} {meth : Method} {c : Code} {D : va_G} {ca : Nat → ClassId} {A : Nat → Prop} {a : Nat → Nat}  {P : Int32 → zz_I → zz_L → Prop} {I : zz_I} {L : zz_L} {x1 : Int32} (X : zz_X p s m meth c cX8_readStone RX8 (some .int) 2) (hA : ∀ q, s.heap.size ≤ q → A q)   (h : zp_X8_readStone_60  P x1 I L) : zz_Go p l e ({ frames := 4, cells := 0, slots := 0, locals := 91 } : Room) s m args below meth c 0 0 (MQ below (zz_Qi D ca zz_dM A a P) args s 0 0 A) D ca zz_dM A 2 60 a [] [(0, .ref (a 0)), (1, .int x1)] I L := by
  unfold zp_X8_readStone_60 at h
  obtain ⟨Inv, μ, hv0, hs⟩ := h
  have key : ∀ (n9 : Nat) (y1 : Int32) (I8 : zz_I) (L8 : zz_L), μ y1 I8 L8 < n9 → Inv y1 I8 L8 → zz_Go p l e ({ frames := 4, cells := 0, slots := 0, locals := 91 } : Room) s m args below meth c 0 0 (MQ below (zz_Qi D ca zz_dM A a P) args s 0 0 A) D ca zz_dM A 2 60 a [] [(0, .ref (a 0)), (1, .int y1)] I8 L8 := by
    intro n9
    induction n9 with
    | zero => intro y1 I8 L8 hn; exact absurd hn (Nat.not_lt_zero _)
    | succ n9 ih =>
      intro y1 I8 L8 hn hi
      exact zq_X8_readStone_60b (K60 := (fun z1 I7 L7 => Inv z1 I7 L7 ∧ μ z1 I7 L7 < μ y1 I8 L8)) X hA   (fun z1 I7 L7 hz => ih z1 I7 L7 (Nat.lt_of_lt_of_le hz.2 (Nat.le_of_lt_succ hn)) hz.1) (hs y1 I8 L8 hi)
  exact key _ x1 I L (Nat.lt_succ_self _) hv0
def zp_X8_readStone_14b (K14 : Int32 → zz_I → zz_L → Prop) (P : Int32 → zz_I → zz_L → Prop) (x1 : Int32) (I : zz_I) (L : zz_L) : Prop := ((9 : Int32) ≤ x1 → ((I 0 2) = 0 → P (0 : Int32) I L) ∧ (¬ (I 0 2) = 0 → vp_in (0 : Int32) 110 ∧ (((I 1 (0 : Int32).toNatClampNeg) = (83 : Int32) → ∀ I55 : zz_I, I55 = zz_up I 0 3 (1 : Int32) → (zp_X8_readStone_60 P (0 : Int32) I55 L)) ∧ (¬ (I 1 (0 : Int32).toNatClampNeg) = (83 : Int32) → P (0 : Int32) I L)))) ∧ (¬ (9 : Int32) ≤ x1 → vp_in x1 9 ∧ (∀ I26 : zz_I, I26 = zz_up I 12 x1.toNatClampNeg (vp_nar .boolean (0 : Int32)) → (∀ v27 : Int32, v27 = x1 + (1 : Int32) → (K14 v27 I26 L))))
set_option maxHeartbeats 4000000 in
set_option maxRecDepth 100000 in
theorem zq_X8_readStone_14b {p : Program} {l : Launch} {e : Env} {s : State} {m : MethodId} {args : Array Value} {below : List Frame} {meth : Method} {c : Code} {D : va_G} {ca : Nat → ClassId} {A : Nat → Prop} {a : Nat → Nat} {K14 : Int32 → zz_I → zz_L → Prop} {P : Int32 → zz_I → zz_L → Prop} {I : zz_I} {L : zz_L} {x1 : Int32} (X : zz_X p s m meth c cX8_readStone RX8 (some .int) 2) (hA : ∀ q, s.heap.size ≤ q → A q)  (hK14 : ∀ (y1 : Int32) (I8 : zz_I) (L8 : zz_L), K14 y1 I8 L8 → zz_Go p l e ({ frames := 4, cells := 0, slots := 0, locals := 91 } : Room) s m args below meth c 0 0 (MQ below (zz_Qi D ca zz_dM A a P) args s 0 0 A) D ca zz_dM A 2 14 a [] [(0, .ref (a 0)), (1, .int y1)] I8 L8) (h : zp_X8_readStone_14b K14 P x1 I L) : zz_Go p l e ({ frames := 4, cells := 0, slots := 0, locals := 91 } : Room) s m args below meth c 0 0 (MQ below (zz_Qi D ca zz_dM A a P) args s 0 0 A) D ca zz_dM A 2 14 a [] [(0, .ref (a 0)), (1, .int x1)] I L := by
  obtain ⟨hx, hb, hml, hown, zw, hr, hlocks⟩ := id X
  intro H locs ls hB hl
  unfold zp_X8_readStone_14b at h
  refine lv_iload_n hx hb dX8_readStone_14 rfl (lv_at hl 1 rfl) ?_
  refine lv_bipush (v := (9 : Int32)) hx hb dX8_readStone_15 (by decide) ?_
  refine lv_icmp_ge (tgt := 33) hx hb dX8_readStone_17 (by decide) (fun c17 => ?_) (fun c17 => ?_)
  · have h := h.1 c17
    refine lv_aload_n hx hb dX8_readStone_33 rfl (lv_at hl 0 rfl) ?_
    refine zz_geti hx hb hown zw hB zF_X8_107 zdM_0 rfl dX8_readStone_34 ?_
    refine lv_if_eq (tgt := 51) hx hb dX8_readStone_37 (by decide) (fun c37 => ?_) (fun c37 => ?_)
    · have h := h.1 c37
      refine lv_iconst (v := (0 : Int32)) hx hb dX8_readStone_51 (by decide) ?_
      exact zz_iret hx hb hr hlocks hB h dX8_readStone_52
    · have h := h.2 c37
      refine lv_aload_n hx hb dX8_readStone_40 rfl (lv_at hl 0 rfl) ?_
      refine zz_getr (k' := 1) hx hb hown zw hB zF_X8_7 zdM_0 rfl rfl dX8_readStone_41 ?_
      refine lv_iconst (v := (0 : Int32)) hx hb dX8_readStone_44 (by decide) ?_
      obtain ⟨hi45, h⟩ := h
      refine zz_iald hx hb hB zdM_1 hi45 dX8_readStone_45 ?_
      refine lv_bipush (v := (83 : Int32)) hx hb dX8_readStone_46 (by decide) ?_
      refine lv_icmp_eq (tgt := 53) hx hb dX8_readStone_48 (by decide) (fun c48 => ?_) (fun c48 => ?_)
      · have h := h.1 c48
        refine lv_aload_n hx hb dX8_readStone_53 rfl (lv_at hl 0 rfl) ?_
        refine lv_iconst (v := (1 : Int32)) hx hb dX8_readStone_54 (by decide) ?_
        refine zz_puti hx hb hown zw hB zP_X8_110 zdM_0 rfl dX8_readStone_55 (fun H locs hB => ?_)
        obtain ⟨I55, eI55⟩ : ∃ z : zz_I, z = zz_up I 0 3 (1 : Int32) := ⟨_, rfl⟩
        rw [← eI55] at hB
        have h := h I55 eI55
        refine lv_iconst (v := (0 : Int32)) hx hb dX8_readStone_58 (by decide) ?_
        refine lv_istore_n (lv' := [(1, .int (0 : Int32)), (0, .ref (a 0))]) hx hb dX8_readStone_59 rfl hl (by decide) rfl (fun ls hl => ?_)
        exact zq_X8_readStone_60 X hA  h H locs ls hB (lv_sub hl [1, 0] rfl)
      · have h := h.2 c48
        refine lv_iconst (v := (0 : Int32)) hx hb dX8_readStone_51 (by decide) ?_
        exact zz_iret hx hb hr hlocks hB h dX8_readStone_52
  · have h := h.2 c17
    refine lv_aload_n hx hb dX8_readStone_20 rfl (lv_at hl 0 rfl) ?_
    refine zz_getr (k' := 12) hx hb hown zw hB zF_X8_43 zdM_0 rfl rfl dX8_readStone_21 ?_
    refine lv_iload_n hx hb dX8_readStone_24 rfl (lv_at hl 1 rfl) ?_
    refine lv_iconst (v := (0 : Int32)) hx hb dX8_readStone_25 (by decide) ?_
    obtain ⟨hi26, h⟩ := h
    refine zz_zast hx hb hB zdM_12 hi26 dX8_readStone_26 (fun H locs hB => ?_)
    obtain ⟨I26, eI26⟩ : ∃ z : zz_I, z = zz_up I 12 x1.toNatClampNeg (vp_nar .boolean (0 : Int32)) := ⟨_, rfl⟩
    rw [← eI26] at hB
    have h := h I26 eI26
    obtain ⟨v27, ev27⟩ : ∃ z : Int32, z = x1 + (1 : Int32) := ⟨_, rfl⟩
    have h := h v27 ev27
    refine lv_iinc (v := v27) (lv' := [(1, .int v27), (0, .ref (a 0))]) hx hb dX8_readStone_27 hl (k := 1) rfl (by rw [ev27]; rfl) (by decide) rfl (fun ls hl => ?_)
    refine lv_goto (tgt := 14) hx hb dX8_readStone_30 (by decide) ?_
    exact hK14 _ _ _ h H locs ls hB (lv_sub hl [1, 0] rfl)
def zp_X8_readStone_14  (P : Int32 → zz_I → zz_L → Prop) (x1 : Int32) (I : zz_I) (L : zz_L) : Prop := ∃ (Inv : Int32 → zz_I → zz_L → Prop) (μ : Int32 → zz_I → zz_L → Nat), Inv x1 I L ∧ ∀ (y1 : Int32) (I8 : zz_I) (L8 : zz_L), Inv y1 I8 L8 → zp_X8_readStone_14b  (fun z1 I7 L7 => Inv z1 I7 L7 ∧ μ z1 I7 L7 < μ y1 I8 L8) P y1 I8 L8
set_option maxHeartbeats 4000000 in
set_option maxRecDepth 100000 in
theorem zq_X8_readStone_14 {p : Program} {l : Launch} {e : Env} {s : State} {m : MethodId} {args : Array Value} {below : List Frame} {meth : Method} {c : Code} {D : va_G} {ca : Nat → ClassId} {A : Nat → Prop} {a : Nat → Nat}  {P : Int32 → zz_I → zz_L → Prop} {I : zz_I} {L : zz_L} {x1 : Int32} (X : zz_X p s m meth c cX8_readStone RX8 (some .int) 2) (hA : ∀ q, s.heap.size ≤ q → A q)   (h : zp_X8_readStone_14  P x1 I L) : zz_Go p l e ({ frames := 4, cells := 0, slots := 0, locals := 91 } : Room) s m args below meth c 0 0 (MQ below (zz_Qi D ca zz_dM A a P) args s 0 0 A) D ca zz_dM A 2 14 a [] [(0, .ref (a 0)), (1, .int x1)] I L := by
  unfold zp_X8_readStone_14 at h
  obtain ⟨Inv, μ, hv0, hs⟩ := h
  have key : ∀ (n9 : Nat) (y1 : Int32) (I8 : zz_I) (L8 : zz_L), μ y1 I8 L8 < n9 → Inv y1 I8 L8 → zz_Go p l e ({ frames := 4, cells := 0, slots := 0, locals := 91 } : Room) s m args below meth c 0 0 (MQ below (zz_Qi D ca zz_dM A a P) args s 0 0 A) D ca zz_dM A 2 14 a [] [(0, .ref (a 0)), (1, .int y1)] I8 L8 := by
    intro n9
    induction n9 with
    | zero => intro y1 I8 L8 hn; exact absurd hn (Nat.not_lt_zero _)
    | succ n9 ih =>
      intro y1 I8 L8 hn hi
      exact zq_X8_readStone_14b (K14 := (fun z1 I7 L7 => Inv z1 I7 L7 ∧ μ z1 I7 L7 < μ y1 I8 L8)) X hA   (fun z1 I7 L7 hz => ih z1 I7 L7 (Nat.lt_of_lt_of_le hz.2 (Nat.le_of_lt_succ hn)) hz.1) (hs y1 I8 L8 hi)
  exact key _ x1 I L (Nat.lt_succ_self _) hv0
def zp_X8_readStone  (P : Int32 → zz_I → zz_L → Prop) (I : zz_I) (L : zz_L) : Prop := zp_X8_begin 13 (fun I4 L4 => ∀ I9 : zz_I, I9 = zz_up I4 0 11 (0 : Int32) → (zp_X8_readStone_14 P (0 : Int32) I9 L4)) I L
set_option maxHeartbeats 4000000 in
set_option maxRecDepth 100000 in
theorem zq_X8_readStone {p : Program} {l : Launch} {e : Env} {s : State} {m : MethodId} {args : Array Value} {below : List Frame} {meth : Method} {c : Code} {D : va_G} {ca : Nat → ClassId} {A : Nat → Prop} {a : Nat → Nat}  {P : Int32 → zz_I → zz_L → Prop} {I : zz_I} {L : zz_L}  (X : zz_X p s m meth c cX8_readStone RX8 (some .int) 2) (hA : ∀ q, s.heap.size ≤ q → A q)   (h : zp_X8_readStone  P I L) : zz_Go p l e ({ frames := 4, cells := 0, slots := 0, locals := 91 } : Room) s m args below meth c 0 0 (MQ below (zz_Qi D ca zz_dM A a P) args s 0 0 A) D ca zz_dM A 2 0 a [] [(0, .ref (a 0))] I L := by
  obtain ⟨hx, hb, hml, hown, zw, hr, hlocks⟩ := id X
  intro H locs ls hB hl
  unfold zp_X8_readStone at h
  refine lv_aload_n hx hb dX8_readStone_0 rfl (lv_at hl 0 rfl) ?_
  refine zz_getr (k' := 13) hx hb hown zw hB zF_X8_47 zdM_0 rfl rfl dX8_readStone_1 ?_
  refine zz_gov hB hA (zz_runS (As := [.ref (a 13)]) (rest := []) hx hb hml hown zw hB zM_X8_90 (zc_X8_begin l D ca a I L H.size zdM_13 h) rfl hl.1 rfl (Nat.le_of_ble_eq_true rfl) rfl rfl ⟨Nat.le_of_ble_eq_true rfl, Nat.le_of_ble_eq_true rfl⟩ dX8_readStone_4 ⟨Nat.le_of_ble_eq_true rfl, Nat.le_of_ble_eq_true rfl⟩) (fun I4 L4 H locs h hB => ?_)
  refine lv_aload_n hx hb dX8_readStone_7 rfl (lv_at hl 0 rfl) ?_
  refine lv_iconst (v := (0 : Int32)) hx hb dX8_readStone_8 (by decide) ?_
  refine zz_puti hx hb hown zw hB zP_X8_113 zdM_0 rfl dX8_readStone_9 (fun H locs hB => ?_)
  obtain ⟨I9, eI9⟩ : ∃ z : zz_I, z = zz_up I4 0 11 (0 : Int32) := ⟨_, rfl⟩
  rw [← eI9] at hB
  have h := h I9 eI9
  refine lv_iconst (v := (0 : Int32)) hx hb dX8_readStone_12 (by decide) ?_
  refine lv_istore_n (lv' := [(1, .int (0 : Int32)), (0, .ref (a 0))]) hx hb dX8_readStone_13 rfl hl (by decide) rfl (fun ls hl => ?_)
  exact zq_X8_readStone_14 X hA  h H locs ls hB (lv_sub hl [1, 0] rfl)
theorem zc_X8_readStone (l : Launch) (D : va_G) (ca : Nat → ClassId) (a : Nat → Nat) (I : zz_I) (L : zz_L) (sz : Nat)  {P : Int32 → zz_I → zz_L → Prop}  (h : zp_X8_readStone  P I L) : Met l yX8_readStone [.code yX8_readStone cX8_readStone 2 (some .int)] ({ frames := 4, cells := 0, slots := 0, locals := 91 } : Room) (zz_Pre D ca zz_dM [.ref (a 0)] a I L sz) (zz_Qi D ca zz_dM (zz_A ca zz_dM a I L sz) a P) 0 0 (zz_A ca zz_dM a I L sz) :=
  zz_start (by decide) (Nat.le_of_ble_eq_true rfl) (fun p e s m below meth c X hsz hA => zq_X8_readStone X hA  h)
def zp_X8_fault  (P : Int32 → zz_I → zz_L → Prop) (I : zz_I) (L : zz_L) : Prop := ∀ I2 : zz_I, I2 = zz_up I 0 0 (0 : Int32) → (zp_X8_readStone  (fun r6 I6 L6 => P r6 I6 L6) I2 L)
set_option maxHeartbeats 4000000 in
set_option maxRecDepth 100000 in
theorem zq_X8_fault {p : Program} {l : Launch} {e : Env} {s : State} {m : MethodId} {args : Array Value} {below : List Frame} {meth : Method} {c : Code} {D : va_G} {ca : Nat → ClassId} {A : Nat → Prop} {a : Nat → Nat}  {P : Int32 → zz_I → zz_L → Prop} {I : zz_I} {L : zz_L}  (X : zz_X p s m meth c cX8_fault RX8 (some .int) 1) (hA : ∀ q, s.heap.size ≤ q → A q)   (h : zp_X8_fault  P I L) : zz_Go p l e ({ frames := 5, cells := 0, slots := 0, locals := 112 } : Room) s m args below meth c 0 0 (MQ below (zz_Qi D ca zz_dM A a P) args s 0 0 A) D ca zz_dM A 1 0 a [] [(0, .ref (a 0))] I L := by
  obtain ⟨hx, hb, hml, hown, zw, hr, hlocks⟩ := id X
  intro H locs ls hB hl
  unfold zp_X8_fault at h
  refine lv_aload_n hx hb dX8_fault_0 rfl (lv_at hl 0 rfl) ?_
  refine lv_iconst (v := (0 : Int32)) hx hb dX8_fault_1 (by decide) ?_
  refine zz_puti hx hb hown zw hB zP_X8_94 zdM_0 rfl dX8_fault_2 (fun H locs hB => ?_)
  obtain ⟨I2, eI2⟩ : ∃ z : zz_I, z = zz_up I 0 0 (0 : Int32) := ⟨_, rfl⟩
  rw [← eI2] at hB
  have h := h I2 eI2
  refine lv_aload_n hx hb dX8_fault_5 rfl (lv_at hl 0 rfl) ?_
  refine zz_goi hB hA (zz_runV (As := []) (rest := []) hx hb hml hown zw hB zM_X8_137 (zc_X8_readStone l D ca a I2 L H.size h) zdM_0 rfl rfl hl.1 rfl (Nat.le_of_ble_eq_true rfl) rfl rfl ⟨Nat.le_of_ble_eq_true rfl, Nat.le_of_ble_eq_true rfl⟩ dX8_fault_6 ⟨Nat.le_of_ble_eq_true rfl, Nat.le_of_ble_eq_true rfl⟩) (fun r6 I6 L6 H locs h hB => ?_)
  exact zz_iret hx hb hr hlocks hB h dX8_fault_9
theorem zc_X8_fault (l : Launch) (D : va_G) (ca : Nat → ClassId) (a : Nat → Nat) (I : zz_I) (L : zz_L) (sz : Nat)  {P : Int32 → zz_I → zz_L → Prop}  (h : zp_X8_fault  P I L) : Met l yX8_fault [.code yX8_fault cX8_fault 1 (some .int)] ({ frames := 5, cells := 0, slots := 0, locals := 112 } : Room) (zz_Pre D ca zz_dM [.ref (a 0)] a I L sz) (zz_Qi D ca zz_dM (zz_A ca zz_dM a I L sz) a P) 0 0 (zz_A ca zz_dM a I L sz) :=
  zz_start (by decide) (Nat.le_of_ble_eq_true rfl) (fun p e s m below meth c X hsz hA => zq_X8_fault X hA  h)
def zp_X8_fraction (x0 : Int64) (x2 : Int64) (x4 : Int32) (P : Int64 → Prop) (I : zz_I) (L : zz_L) : Prop := zp_X8_divisor x0 x2 (fun r2 => (x4 = 0 → ¬ r2 = 0 ∧ (P (x2 / r2))) ∧ (¬ x4 = 0 → ¬ r2 = 0 ∧ (P (x0 / r2)))) I L
set_option maxHeartbeats 4000000 in
set_option maxRecDepth 100000 in
theorem zq_X8_fraction {p : Program} {l : Launch} {e : Env} {s : State} {m : MethodId} {args : Array Value} {below : List Frame} {meth : Method} {c : Code} {D : va_G} {ca : Nat → ClassId} {A : Nat → Prop} {a : Nat → Nat}  {P : Int64 → Prop} {I : zz_I} {L : zz_L} {x0 : Int64} {x2 : Int64} {x4 : Int32} (X : zz_X p s m meth c cX8_fraction RX8 (some .long) 7) (hA : ∀ q, s.heap.size ≤ q → A q)   (h : zp_X8_fraction x0 x2 x4 P I L) : zz_Go p l e ({ frames := 1, cells := 0, slots := 0, locals := 29 } : Room) s m args below meth c 0 0 (MQ below (zz_Ql D ca zz_dM A a (fun r I9 L9 => P r ∧ I9 = I ∧ L9 = L)) args s 0 0 A) D ca zz_dM A 7 0 a [] [(0, .long x0), (2, .long x2), (4, .int x4)] I L := by
  obtain ⟨hx, hb, hml, hown, zw, hr, hlocks⟩ := id X
  intro H locs ls hB hl
  unfold zp_X8_fraction at h
  refine lv_lload_n hx hb dX8_fraction_0 rfl (lv_at hl 0 rfl) ?_
  refine lv_lload_n hx hb dX8_fraction_1 rfl (lv_at hl 1 rfl) ?_
  refine zz_golp hB hA (zz_runS (As := [.long x0, .long x2]) (rest := []) hx hb hml hown zw hB zM_X8_277 (zc_X8_divisor l D ca a I L H.size h) rfl hl.1 rfl (Nat.le_of_ble_eq_true rfl) rfl rfl ⟨Nat.le_of_ble_eq_true rfl, Nat.le_of_ble_eq_true rfl⟩ dX8_fraction_2 ⟨Nat.le_of_ble_eq_true rfl, Nat.le_of_ble_eq_true rfl⟩) (fun r2 H locs h hB => ?_)
  refine lv_lstore (lv' := [(5, .long r2), (0, .long x0), (2, .long x2), (4, .int x4)]) hx hb dX8_fraction_5 hl (by decide) rfl (fun ls hl => ?_)
  refine lv_iload hx hb dX8_fraction_7 (lv_at hl 3 rfl) ?_
  refine lv_if_eq (tgt := 19) hx hb dX8_fraction_9 (by decide) (fun c9 => ?_) (fun c9 => ?_)
  · have h := h.1 c9
    refine lv_lload_n hx hb dX8_fraction_19 rfl (lv_at hl 2 rfl) ?_
    refine lv_lload hx hb dX8_fraction_20 (lv_at hl 0 rfl) ?_
    obtain ⟨h22, h⟩ := h
    refine lv_ldiv hx hb dX8_fraction_22 h22 ?_
    exact zz_lret hx hb hr hlocks hB ⟨h, rfl, rfl⟩ dX8_fraction_23
  · have h := h.2 c9
    refine lv_lload_n hx hb dX8_fraction_12 rfl (lv_at hl 1 rfl) ?_
    refine lv_lload hx hb dX8_fraction_13 (lv_at hl 0 rfl) ?_
    obtain ⟨h15, h⟩ := h
    refine lv_ldiv hx hb dX8_fraction_15 h15 ?_
    refine lv_goto (tgt := 23) hx hb dX8_fraction_16 (by decide) ?_
    exact zz_lret hx hb hr hlocks hB ⟨h, rfl, rfl⟩ dX8_fraction_23
theorem zc_X8_fraction (l : Launch) (D : va_G) (ca : Nat → ClassId) (a : Nat → Nat) (I : zz_I) (L : zz_L) (sz : Nat) {x0 : Int64} {x2 : Int64} {x4 : Int32} {P : Int64 → Prop}  (h : zp_X8_fraction x0 x2 x4 P I L) : Met l yX8_fraction [.code yX8_fraction cX8_fraction 7 (some .long)] ({ frames := 1, cells := 0, slots := 0, locals := 29 } : Room) (zz_Pre D ca zz_dM [.long x0, .long x2, .int x4] a I L sz) (zz_Ql D ca zz_dM (zz_A ca zz_dM a I L sz) a (fun r I9 L9 => P r ∧ I9 = I ∧ L9 = L)) 0 0 (zz_A ca zz_dM a I L sz) :=
  zz_start (by decide) (Nat.le_of_ble_eq_true rfl) (fun p e s m below meth c X hsz hA => zq_X8_fraction X hA  h)
def zp_X8_longPower_5b (K5 : Int64 → Int32 → Prop) (P : Int64 → Prop) (x0 : Int64) (x2 : Int32) (x3 : Int64) (x5 : Int32) (I : zz_I) (L : zz_L) : Prop := (x2 ≤ x5 → P x3) ∧ (¬ x2 ≤ x5 → ∀ v14 : Int64, v14 = x3 * x0 → (∀ v15 : Int32, v15 = x5 + (1 : Int32) → (K5 v14 v15)))
set_option maxHeartbeats 4000000 in
set_option maxRecDepth 100000 in
theorem zq_X8_longPower_5b {p : Program} {l : Launch} {e : Env} {s : State} {m : MethodId} {args : Array Value} {below : List Frame} {meth : Method} {c : Code} {D : va_G} {ca : Nat → ClassId} {A : Nat → Prop} {a : Nat → Nat} {K5 : Int64 → Int32 → Prop} {P : Int64 → Prop} {I : zz_I} {L : zz_L} {x0 : Int64} {x2 : Int32} {x3 : Int64} {x5 : Int32} (X : zz_X p s m meth c cX8_longPower RX8 (some .long) 6) (hA : ∀ q, s.heap.size ≤ q → A q)  (hK5 : ∀ (y3 : Int64) (y5 : Int32), K5 y3 y5 → zz_Go p l e ({ frames := 0, cells := 0, slots := 0, locals := 0 } : Room) s m args below meth c 0 0 (MQ below (zz_Ql D ca zz_dM A a (fun r I9 L9 => P r ∧ I9 = I ∧ L9 = L)) args s 0 0 A) D ca zz_dM A 6 5 a [] [(0, .long x0), (2, .int x2), (3, .long y3), (5, .int y5)] I L) (h : zp_X8_longPower_5b K5 P x0 x2 x3 x5 I L) : zz_Go p l e ({ frames := 0, cells := 0, slots := 0, locals := 0 } : Room) s m args below meth c 0 0 (MQ below (zz_Ql D ca zz_dM A a (fun r I9 L9 => P r ∧ I9 = I ∧ L9 = L)) args s 0 0 A) D ca zz_dM A 6 5 a [] [(0, .long x0), (2, .int x2), (3, .long x3), (5, .int x5)] I L := by
  obtain ⟨hx, hb, hml, hown, zw, hr, hlocks⟩ := id X
  intro H locs ls hB hl
  unfold zp_X8_longPower_5b at h
  refine lv_iload hx hb dX8_longPower_5 (lv_at hl 3 rfl) ?_
  refine lv_iload_n hx hb dX8_longPower_7 rfl (lv_at hl 1 rfl) ?_
  refine lv_icmp_ge (tgt := 21) hx hb dX8_longPower_8 (by decide) (fun c8 => ?_) (fun c8 => ?_)
  · have h := h.1 c8
    refine lv_lload_n hx hb dX8_longPower_21 rfl (lv_at hl 2 rfl) ?_
    exact zz_lret hx hb hr hlocks hB ⟨h, rfl, rfl⟩ dX8_longPower_22
  · have h := h.2 c8
    refine lv_lload_n hx hb dX8_longPower_11 rfl (lv_at hl 2 rfl) ?_
    refine lv_lload_n hx hb dX8_longPower_12 rfl (lv_at hl 0 rfl) ?_
    refine lv_lmul hx hb dX8_longPower_13 ?_
    refine lv_topl (fun v14 ev14 => ?_)
    have h := h v14 ev14
    refine lv_lstore_n (lv' := [(3, .long v14), (0, .long x0), (2, .int x2), (5, .int x5)]) hx hb dX8_longPower_14 rfl hl (by decide) rfl (fun ls hl => ?_)
    obtain ⟨v15, ev15⟩ : ∃ z : Int32, z = x5 + (1 : Int32) := ⟨_, rfl⟩
    have h := h v15 ev15
    refine lv_iinc (v := v15) (lv' := [(5, .int v15), (3, .long v14), (0, .long x0), (2, .int x2)]) hx hb dX8_longPower_15 hl (k := 3) rfl (by rw [ev15]; rfl) (by decide) rfl (fun ls hl => ?_)
    refine lv_goto (tgt := 5) hx hb dX8_longPower_18 (by decide) ?_
    exact hK5 _ _ h H locs ls hB (lv_sub hl [2, 3, 1, 0] rfl)
def zp_X8_longPower_5  (P : Int64 → Prop) (x0 : Int64) (x2 : Int32) (x3 : Int64) (x5 : Int32) (I : zz_I) (L : zz_L) : Prop := ∃ (Inv : Int64 → Int32 → Prop) (μ : Int64 → Int32 → Nat), Inv x3 x5 ∧ ∀ (y3 : Int64) (y5 : Int32), Inv y3 y5 → zp_X8_longPower_5b  (fun z3 z5 => Inv z3 z5 ∧ μ z3 z5 < μ y3 y5) P x0 x2 y3 y5 I L
set_option maxHeartbeats 4000000 in
set_option maxRecDepth 100000 in
theorem zq_X8_longPower_5 {p : Program} {l : Launch} {e : Env} {s : State} {m : MethodId} {args : Array Value} {below : List Frame} {meth : Method} {c : Code} {D : va_G} {ca : Nat → ClassId} {A : Nat → Prop} {a : Nat → Nat}  {P : Int64 → Prop} {I : zz_I} {L : zz_L} {x0 : Int64} {x2 : Int32} {x3 : Int64} {x5 : Int32} (X : zz_X p s m meth c cX8_longPower RX8 (some .long) 6) (hA : ∀ q, s.heap.size ≤ q → A q)   (h : zp_X8_longPower_5  P x0 x2 x3 x5 I L) : zz_Go p l e ({ frames := 0, cells := 0, slots := 0, locals := 0 } : Room) s m args below meth c 0 0 (MQ below (zz_Ql D ca zz_dM A a (fun r I9 L9 => P r ∧ I9 = I ∧ L9 = L)) args s 0 0 A) D ca zz_dM A 6 5 a [] [(0, .long x0), (2, .int x2), (3, .long x3), (5, .int x5)] I L := by
  unfold zp_X8_longPower_5 at h
  obtain ⟨Inv, μ, hv0, hs⟩ := h
  have key : ∀ (n9 : Nat) (y3 : Int64) (y5 : Int32), μ y3 y5 < n9 → Inv y3 y5 → zz_Go p l e ({ frames := 0, cells := 0, slots := 0, locals := 0 } : Room) s m args below meth c 0 0 (MQ below (zz_Ql D ca zz_dM A a (fun r I9 L9 => P r ∧ I9 = I ∧ L9 = L)) args s 0 0 A) D ca zz_dM A 6 5 a [] [(0, .long x0), (2, .int x2), (3, .long y3), (5, .int y5)] I L := by
    intro n9
    induction n9 with
    | zero => intro y3 y5 hn; exact absurd hn (Nat.not_lt_zero _)
    | succ n9 ih =>
      intro y3 y5 hn hi
      exact zq_X8_longPower_5b (K5 := (fun z3 z5 => Inv z3 z5 ∧ μ z3 z5 < μ y3 y5)) X hA   (fun z3 z5 hz => ih z3 z5 (Nat.lt_of_lt_of_le hz.2 (Nat.le_of_lt_succ hn)) hz.1) (hs y3 y5 hi)
  exact key _ x3 x5 (Nat.lt_succ_self _) hv0
def zp_X8_longPower (x0 : Int64) (x2 : Int32) (P : Int64 → Prop) (I : zz_I) (L : zz_L) : Prop := zp_X8_longPower_5 P x0 x2 (1 : Int64) (0 : Int32) I L
set_option maxHeartbeats 4000000 in
set_option maxRecDepth 100000 in
theorem zq_X8_longPower {p : Program} {l : Launch} {e : Env} {s : State} {m : MethodId} {args : Array Value} {below : List Frame} {meth : Method} {c : Code} {D : va_G} {ca : Nat → ClassId} {A : Nat → Prop} {a : Nat → Nat}  {P : Int64 → Prop} {I : zz_I} {L : zz_L} {x0 : Int64} {x2 : Int32} (X : zz_X p s m meth c cX8_longPower RX8 (some .long) 6) (hA : ∀ q, s.heap.size ≤ q → A q)   (h : zp_X8_longPower x0 x2 P I L) : zz_Go p l e ({ frames := 0, cells := 0, slots := 0, locals := 0 } : Room) s m args below meth c 0 0 (MQ below (zz_Ql D ca zz_dM A a (fun r I9 L9 => P r ∧ I9 = I ∧ L9 = L)) args s 0 0 A) D ca zz_dM A 6 0 a [] [(0, .long x0), (2, .int x2)] I L := by
  obtain ⟨hx, hb, hml, hown, zw, hr, hlocks⟩ := id X
  intro H locs ls hB hl
  unfold zp_X8_longPower at h
  refine lv_lconst (v := (1 : Int64)) hx hb dX8_longPower_0 (by decide) ?_
  refine lv_lstore_n (lv' := [(3, .long (1 : Int64)), (0, .long x0), (2, .int x2)]) hx hb dX8_longPower_1 rfl hl (by decide) rfl (fun ls hl => ?_)
  refine lv_iconst (v := (0 : Int32)) hx hb dX8_longPower_2 (by decide) ?_
  refine lv_istore (lv' := [(5, .int (0 : Int32)), (3, .long (1 : Int64)), (0, .long x0), (2, .int x2)]) hx hb dX8_longPower_3 hl (by decide) rfl (fun ls hl => ?_)
  exact zq_X8_longPower_5 X hA  h H locs ls hB (lv_sub hl [2, 3, 1, 0] rfl)
theorem zc_X8_longPower (l : Launch) (D : va_G) (ca : Nat → ClassId) (a : Nat → Nat) (I : zz_I) (L : zz_L) (sz : Nat) {x0 : Int64} {x2 : Int32} {P : Int64 → Prop}  (h : zp_X8_longPower x0 x2 P I L) : Met l yX8_longPower [.code yX8_longPower cX8_longPower 6 (some .long)] ({ frames := 0, cells := 0, slots := 0, locals := 0 } : Room) (zz_Pre D ca zz_dM [.long x0, .int x2] a I L sz) (zz_Ql D ca zz_dM (zz_A ca zz_dM a I L sz) a (fun r I9 L9 => P r ∧ I9 = I ∧ L9 = L)) 0 0 (zz_A ca zz_dM a I L sz) :=
  zz_start (by decide) (Nat.le_of_ble_eq_true rfl) (fun p e s m below meth c X hsz hA => zq_X8_longPower X hA  h)
def zp_X8_lay_2b (K2 : Int32 → zz_I → zz_L → Prop) (P : zz_I → zz_L → Prop) (k0 : Nat) (k1 : Nat) (x2 : Int32) (I : zz_I) (L : zz_L) : Prop := ((43 : Int32) ≤ x2 → P I L) ∧ (¬ (43 : Int32) ≤ x2 → vp_in x2 43 ∧ (vp_in x2 43 ∧ (∀ I13 : zz_I, I13 = zz_up I k0 x2.toNatClampNeg (I k1 x2.toNatClampNeg) → (∀ v14 : Int32, v14 = x2 + (1 : Int32) → (K2 v14 I13 L)))))
set_option maxHeartbeats 4000000 in
set_option maxRecDepth 100000 in
theorem zq_X8_lay_2b {p : Program} {l : Launch} {e : Env} {s : State} {m : MethodId} {args : Array Value} {below : List Frame} {meth : Method} {c : Code} {D : va_G} {ca : Nat → ClassId} {A : Nat → Prop} {a : Nat → Nat} {K2 : Int32 → zz_I → zz_L → Prop} {P : zz_I → zz_L → Prop} {I : zz_I} {L : zz_L} {k0 : Nat} {k1 : Nat} {x2 : Int32} (X : zz_X p s m meth c cX8_lay RX8 none 3) (hA : ∀ q, s.heap.size ≤ q → A q) (hk0 : zz_dM[k0]? = some (.inl (0, 43))) (hk1 : zz_dM[k1]? = some (.inl (0, 43))) (hK2 : ∀ (y2 : Int32) (I8 : zz_I) (L8 : zz_L), K2 y2 I8 L8 → zz_Go p l e ({ frames := 0, cells := 0, slots := 0, locals := 0 } : Room) s m args below meth c 0 0 (MQ below (zz_Qv D ca zz_dM A a P) args s 0 0 A) D ca zz_dM A 3 2 a [] [(0, .ref (a k0)), (1, .ref (a k1)), (2, .int y2)] I8 L8) (h : zp_X8_lay_2b K2 P k0 k1 x2 I L) : zz_Go p l e ({ frames := 0, cells := 0, slots := 0, locals := 0 } : Room) s m args below meth c 0 0 (MQ below (zz_Qv D ca zz_dM A a P) args s 0 0 A) D ca zz_dM A 3 2 a [] [(0, .ref (a k0)), (1, .ref (a k1)), (2, .int x2)] I L := by
  obtain ⟨hx, hb, hml, hown, zw, hr, hlocks⟩ := id X
  intro H locs ls hB hl
  unfold zp_X8_lay_2b at h
  refine lv_iload_n hx hb dX8_lay_2 rfl (lv_at hl 2 rfl) ?_
  refine lv_bipush (v := (43 : Int32)) hx hb dX8_lay_3 (by decide) ?_
  refine lv_icmp_ge (tgt := 20) hx hb dX8_lay_5 (by decide) (fun c5 => ?_) (fun c5 => ?_)
  · have h := h.1 c5
    exact zz_vret hx hb hr hlocks hB h dX8_lay_20
  · have h := h.2 c5
    refine lv_aload_n hx hb dX8_lay_8 rfl (lv_at hl 0 rfl) ?_
    refine lv_iload_n hx hb dX8_lay_9 rfl (lv_at hl 2 rfl) ?_
    refine lv_aload_n hx hb dX8_lay_10 rfl (lv_at hl 1 rfl) ?_
    refine lv_iload_n hx hb dX8_lay_11 rfl (lv_at hl 2 rfl) ?_
    obtain ⟨hi12, h⟩ := h
    refine zz_iald hx hb hB hk1 hi12 dX8_lay_12 ?_
    obtain ⟨hi13, h⟩ := h
    refine zz_iast hx hb hB hk0 hi13 dX8_lay_13 (fun H locs hB => ?_)
    obtain ⟨I13, eI13⟩ : ∃ z : zz_I, z = zz_up I k0 x2.toNatClampNeg (I k1 x2.toNatClampNeg) := ⟨_, rfl⟩
    rw [← eI13] at hB
    have h := h I13 eI13
    obtain ⟨v14, ev14⟩ : ∃ z : Int32, z = x2 + (1 : Int32) := ⟨_, rfl⟩
    have h := h v14 ev14
    refine lv_iinc (v := v14) (lv' := [(2, .int v14), (0, .ref (a k0)), (1, .ref (a k1))]) hx hb dX8_lay_14 hl (k := 2) rfl (by rw [ev14]; rfl) (by decide) rfl (fun ls hl => ?_)
    refine lv_goto (tgt := 2) hx hb dX8_lay_17 (by decide) ?_
    exact hK2 _ _ _ h H locs ls hB (lv_sub hl [1, 2, 0] rfl)
def zp_X8_lay_2  (P : zz_I → zz_L → Prop) (k0 : Nat) (k1 : Nat) (x2 : Int32) (I : zz_I) (L : zz_L) : Prop := ∃ (Inv : Int32 → zz_I → zz_L → Prop) (μ : Int32 → zz_I → zz_L → Nat), Inv x2 I L ∧ ∀ (y2 : Int32) (I8 : zz_I) (L8 : zz_L), Inv y2 I8 L8 → zp_X8_lay_2b  (fun z2 I7 L7 => Inv z2 I7 L7 ∧ μ z2 I7 L7 < μ y2 I8 L8) P k0 k1 y2 I8 L8
set_option maxHeartbeats 4000000 in
set_option maxRecDepth 100000 in
theorem zq_X8_lay_2 {p : Program} {l : Launch} {e : Env} {s : State} {m : MethodId} {args : Array Value} {below : List Frame} {meth : Method} {c : Code} {D : va_G} {ca : Nat → ClassId} {A : Nat → Prop} {a : Nat → Nat}  {P : zz_I → zz_L → Prop} {I : zz_I} {L : zz_L} {k0 : Nat} {k1 : Nat} {x2 : Int32} (X : zz_X p s m meth c cX8_lay RX8 none 3) (hA : ∀ q, s.heap.size ≤ q → A q) (hk0 : zz_dM[k0]? = some (.inl (0, 43))) (hk1 : zz_dM[k1]? = some (.inl (0, 43)))  (h : zp_X8_lay_2  P k0 k1 x2 I L) : zz_Go p l e ({ frames := 0, cells := 0, slots := 0, locals := 0 } : Room) s m args below meth c 0 0 (MQ below (zz_Qv D ca zz_dM A a P) args s 0 0 A) D ca zz_dM A 3 2 a [] [(0, .ref (a k0)), (1, .ref (a k1)), (2, .int x2)] I L := by
  unfold zp_X8_lay_2 at h
  obtain ⟨Inv, μ, hv0, hs⟩ := h
  have key : ∀ (n9 : Nat) (y2 : Int32) (I8 : zz_I) (L8 : zz_L), μ y2 I8 L8 < n9 → Inv y2 I8 L8 → zz_Go p l e ({ frames := 0, cells := 0, slots := 0, locals := 0 } : Room) s m args below meth c 0 0 (MQ below (zz_Qv D ca zz_dM A a P) args s 0 0 A) D ca zz_dM A 3 2 a [] [(0, .ref (a k0)), (1, .ref (a k1)), (2, .int y2)] I8 L8 := by
    intro n9
    induction n9 with
    | zero => intro y2 I8 L8 hn; exact absurd hn (Nat.not_lt_zero _)
    | succ n9 ih =>
      intro y2 I8 L8 hn hi
      exact zq_X8_lay_2b (K2 := (fun z2 I7 L7 => Inv z2 I7 L7 ∧ μ z2 I7 L7 < μ y2 I8 L8)) X hA hk0 hk1  (fun z2 I7 L7 hz => ih z2 I7 L7 (Nat.lt_of_lt_of_le hz.2 (Nat.le_of_lt_succ hn)) hz.1) (hs y2 I8 L8 hi)
  exact key _ x2 I L (Nat.lt_succ_self _) hv0
def zp_X8_lay (k0 : Nat) (k1 : Nat) (P : zz_I → zz_L → Prop) (I : zz_I) (L : zz_L) : Prop := zp_X8_lay_2 P k0 k1 (0 : Int32) I L
set_option maxHeartbeats 4000000 in
set_option maxRecDepth 100000 in
theorem zq_X8_lay {p : Program} {l : Launch} {e : Env} {s : State} {m : MethodId} {args : Array Value} {below : List Frame} {meth : Method} {c : Code} {D : va_G} {ca : Nat → ClassId} {A : Nat → Prop} {a : Nat → Nat}  {P : zz_I → zz_L → Prop} {I : zz_I} {L : zz_L} {k0 : Nat} {k1 : Nat} (X : zz_X p s m meth c cX8_lay RX8 none 3) (hA : ∀ q, s.heap.size ≤ q → A q) (hk0 : zz_dM[k0]? = some (.inl (0, 43))) (hk1 : zz_dM[k1]? = some (.inl (0, 43)))  (h : zp_X8_lay k0 k1 P I L) : zz_Go p l e ({ frames := 0, cells := 0, slots := 0, locals := 0 } : Room) s m args below meth c 0 0 (MQ below (zz_Qv D ca zz_dM A a P) args s 0 0 A) D ca zz_dM A 3 0 a [] [(0, .ref (a k0)), (1, .ref (a k1))] I L := by
  obtain ⟨hx, hb, hml, hown, zw, hr, hlocks⟩ := id X
  intro H locs ls hB hl
  unfold zp_X8_lay at h
  refine lv_iconst (v := (0 : Int32)) hx hb dX8_lay_0 (by decide) ?_
  refine lv_istore_n (lv' := [(2, .int (0 : Int32)), (0, .ref (a k0)), (1, .ref (a k1))]) hx hb dX8_lay_1 rfl hl (by decide) rfl (fun ls hl => ?_)
  exact zq_X8_lay_2 X hA hk0 hk1 h H locs ls hB (lv_sub hl [1, 2, 0] rfl)
theorem zc_X8_lay (l : Launch) (D : va_G) (ca : Nat → ClassId) (a : Nat → Nat) (I : zz_I) (L : zz_L) (sz : Nat) {k0 : Nat} {k1 : Nat} {P : zz_I → zz_L → Prop} (hk0 : zz_dM[k0]? = some (.inl (0, 43))) (hk1 : zz_dM[k1]? = some (.inl (0, 43))) (h : zp_X8_lay k0 k1 P I L) : Met l yX8_lay [.code yX8_lay cX8_lay 3 none] ({ frames := 0, cells := 0, slots := 0, locals := 0 } : Room) (zz_Pre D ca zz_dM [.ref (a k0), .ref (a k1)] a I L sz) (zz_Qv D ca zz_dM (zz_A ca zz_dM a I L sz) a P) 0 0 (zz_A ca zz_dM a I L sz) :=
  zz_start (by decide) (Nat.le_of_ble_eq_true rfl) (fun p e s m below meth c X hsz hA => zq_X8_lay X hA hk0 hk1 h)
def zp_X8_judge_51b (K51 : Int32 → zz_I → zz_L → Prop) (P : Int32 → zz_I → zz_L → Prop) (x1 : Int32) (x2 : Int64) (x4 : Int32) (I : zz_I) (L : zz_L) : Prop := (x1 ≤ x4 → P (-9 : Int32) I L) ∧ (¬ x1 ≤ x4 → zp_X8_longPower (100000 : Int64) ((x1 - (1 : Int32)) - x4) (fun r68 => ¬ r68 = 0 ∧ (zp_X8_does (((x2 / r68) - (x2 / r68) / (100000 : Int64) * (100000 : Int64)).toInt32) (fun r77 I77 L77 => (¬ r77 = 0 → ∀ v86 : Int32, v86 = x4 + (1 : Int32) → (K51 v86 I77 L77)) ∧ (r77 = 0 → P x4 I77 L77)) I L)) I L)
set_option maxHeartbeats 4000000 in
set_option maxRecDepth 100000 in
theorem zq_X8_judge_51b {p : Program} {l : Launch} {e : Env} {s : State} {m : MethodId} {args : Array Value} {below : List Frame} {meth : Method} {c : Code} {D : va_G} {ca : Nat → ClassId} {A : Nat → Prop} {a : Nat → Nat} {K51 : Int32 → zz_I → zz_L → Prop} {P : Int32 → zz_I → zz_L → Prop} {I : zz_I} {L : zz_L} {x1 : Int32} {x2 : Int64} {x4 : Int32} (X : zz_X p s m meth c cX8_judge RX8 (some .int) 5) (hA : ∀ q, s.heap.size ≤ q → A q)  (hK51 : ∀ (y4 : Int32) (I8 : zz_I) (L8 : zz_L), K51 y4 I8 L8 → zz_Go p l e ({ frames := 8, cells := 0, slots := 0, locals := 211 } : Room) s m args below meth c 0 0 (MQ below (zz_Qi D ca zz_dM A a P) args s 0 0 A) D ca zz_dM A 5 51 a [] [(0, .ref (a 0)), (1, .int x1), (2, .long x2), (4, .int y4)] I8 L8) (h : zp_X8_judge_51b K51 P x1 x2 x4 I L) : zz_Go p l e ({ frames := 8, cells := 0, slots := 0, locals := 211 } : Room) s m args below meth c 0 0 (MQ below (zz_Qi D ca zz_dM A a P) args s 0 0 A) D ca zz_dM A 5 51 a [] [(0, .ref (a 0)), (1, .int x1), (2, .long x2), (4, .int x4)] I L := by
  obtain ⟨hx, hb, hml, hown, zw, hr, hlocks⟩ := id X
  intro H locs ls hB hl
  unfold zp_X8_judge_51b at h
  refine lv_iload hx hb dX8_judge_51 (lv_at hl 3 rfl) ?_
  refine lv_iload_n hx hb dX8_judge_53 rfl (lv_at hl 1 rfl) ?_
  refine lv_icmp_ge (tgt := 92) hx hb dX8_judge_54 (by decide) (fun c54 => ?_) (fun c54 => ?_)
  · have h := h.1 c54
    refine lv_bipush (v := (-9 : Int32)) hx hb dX8_judge_92 (by decide) ?_
    exact zz_iret hx hb hr hlocks hB h dX8_judge_94
  · have h := h.2 c54
    refine lv_aload_n hx hb dX8_judge_57 rfl (lv_at hl 0 rfl) ?_
    refine lv_lload_n hx hb dX8_judge_58 rfl (lv_at hl 2 rfl) ?_
    refine lv_ldc2 (v := (100000 : Int64)) hx hb hown (zz_W_use zw zk_X8_263 rfl) dX8_judge_59 ?_
    refine lv_iload_n hx hb dX8_judge_62 rfl (lv_at hl 1 rfl) ?_
    refine lv_iconst (v := (1 : Int32)) hx hb dX8_judge_63 (by decide) ?_
    refine lv_isub hx hb dX8_judge_64 ?_
    refine lv_iload hx hb dX8_judge_65 (lv_at hl 3 rfl) ?_
    refine lv_isub hx hb dX8_judge_67 ?_
    refine zz_golp hB hA (zz_runS (As := [.long (100000 : Int64), .int ((x1 - (1 : Int32)) - x4)]) (rest := [.long x2, .ref (a 0)]) hx hb hml hown zw hB zM_X8_265 (zc_X8_longPower l D ca a I L H.size h) rfl hl.1 rfl (Nat.le_of_ble_eq_true rfl) rfl rfl ⟨Nat.le_of_ble_eq_true rfl, Nat.le_of_ble_eq_true rfl⟩ dX8_judge_68 ⟨Nat.le_of_ble_eq_true rfl, Nat.le_of_ble_eq_true rfl⟩) (fun r68 H locs h hB => ?_)
    obtain ⟨h71, h⟩ := h
    refine lv_ldiv hx hb dX8_judge_71 h71 ?_
    refine lv_ldc2 (v := (100000 : Int64)) hx hb hown (zz_W_use zw zk_X8_263 rfl) dX8_judge_72 ?_
    refine lv_lrem hx hb dX8_judge_75 (by decide) ?_
    refine lv_l2i (v := ((x2 / r68) - (x2 / r68) / (100000 : Int64) * (100000 : Int64)).toInt32) hx hb dX8_judge_76 rfl ?_
    refine zz_goi hB hA (zz_runV (As := [.int (((x2 / r68) - (x2 / r68) / (100000 : Int64) * (100000 : Int64)).toInt32)]) (rest := []) hx hb hml hown zw hB zM_X8_269 (zc_X8_does l D ca a I L H.size h) zdM_0 rfl rfl hl.1 rfl (Nat.le_of_ble_eq_true rfl) rfl rfl ⟨Nat.le_of_ble_eq_true rfl, Nat.le_of_ble_eq_true rfl⟩ dX8_judge_77 ⟨Nat.le_of_ble_eq_true rfl, Nat.le_of_ble_eq_true rfl⟩) (fun r77 I77 L77 H locs h hB => ?_)
    refine lv_if_ne (tgt := 86) hx hb dX8_judge_80 (by decide) (fun c80 => ?_) (fun c80 => ?_)
    · have h := h.1 c80
      obtain ⟨v86, ev86⟩ : ∃ z : Int32, z = x4 + (1 : Int32) := ⟨_, rfl⟩
      have h := h v86 ev86
      refine lv_iinc (v := v86) (lv' := [(4, .int v86), (0, .ref (a 0)), (1, .int x1), (2, .long x2)]) hx hb dX8_judge_86 hl (k := 3) rfl (by rw [ev86]; rfl) (by decide) rfl (fun ls hl => ?_)
      refine lv_goto (tgt := 51) hx hb dX8_judge_89 (by decide) ?_
      exact hK51 _ _ _ h H locs ls hB (lv_sub hl [1, 2, 3, 0] rfl)
    · have h := h.2 c80
      refine lv_iload hx hb dX8_judge_83 (lv_at hl 3 rfl) ?_
      exact zz_iret hx hb hr hlocks hB h dX8_judge_85
def zp_X8_judge_51  (P : Int32 → zz_I → zz_L → Prop) (x1 : Int32) (x2 : Int64) (x4 : Int32) (I : zz_I) (L : zz_L) : Prop := ∃ (Inv : Int32 → zz_I → zz_L → Prop) (μ : Int32 → zz_I → zz_L → Nat), Inv x4 I L ∧ ∀ (y4 : Int32) (I8 : zz_I) (L8 : zz_L), Inv y4 I8 L8 → zp_X8_judge_51b  (fun z4 I7 L7 => Inv z4 I7 L7 ∧ μ z4 I7 L7 < μ y4 I8 L8) P x1 x2 y4 I8 L8
set_option maxHeartbeats 4000000 in
set_option maxRecDepth 100000 in
theorem zq_X8_judge_51 {p : Program} {l : Launch} {e : Env} {s : State} {m : MethodId} {args : Array Value} {below : List Frame} {meth : Method} {c : Code} {D : va_G} {ca : Nat → ClassId} {A : Nat → Prop} {a : Nat → Nat}  {P : Int32 → zz_I → zz_L → Prop} {I : zz_I} {L : zz_L} {x1 : Int32} {x2 : Int64} {x4 : Int32} (X : zz_X p s m meth c cX8_judge RX8 (some .int) 5) (hA : ∀ q, s.heap.size ≤ q → A q)   (h : zp_X8_judge_51  P x1 x2 x4 I L) : zz_Go p l e ({ frames := 8, cells := 0, slots := 0, locals := 211 } : Room) s m args below meth c 0 0 (MQ below (zz_Qi D ca zz_dM A a P) args s 0 0 A) D ca zz_dM A 5 51 a [] [(0, .ref (a 0)), (1, .int x1), (2, .long x2), (4, .int x4)] I L := by
  unfold zp_X8_judge_51 at h
  obtain ⟨Inv, μ, hv0, hs⟩ := h
  have key : ∀ (n9 : Nat) (y4 : Int32) (I8 : zz_I) (L8 : zz_L), μ y4 I8 L8 < n9 → Inv y4 I8 L8 → zz_Go p l e ({ frames := 8, cells := 0, slots := 0, locals := 211 } : Room) s m args below meth c 0 0 (MQ below (zz_Qi D ca zz_dM A a P) args s 0 0 A) D ca zz_dM A 5 51 a [] [(0, .ref (a 0)), (1, .int x1), (2, .long x2), (4, .int y4)] I8 L8 := by
    intro n9
    induction n9 with
    | zero => intro y4 I8 L8 hn; exact absurd hn (Nat.not_lt_zero _)
    | succ n9 ih =>
      intro y4 I8 L8 hn hi
      exact zq_X8_judge_51b (K51 := (fun z4 I7 L7 => Inv z4 I7 L7 ∧ μ z4 I7 L7 < μ y4 I8 L8)) X hA   (fun z4 I7 L7 hz => ih z4 I7 L7 (Nat.lt_of_lt_of_le hz.2 (Nat.le_of_lt_succ hn)) hz.1) (hs y4 I8 L8 hi)
  exact key _ x4 I L (Nat.lt_succ_self _) hv0
def zp_X8_judge (x1 : Int32) (x2 : Int64) (P : Int32 → zz_I → zz_L → Prop) (I : zz_I) (L : zz_L) : Prop := ∀ I2 : zz_I, I2 = zz_up I 0 0 (0 : Int32) → (zp_X8_in (x1.toInt64) (1 : Int64) (3 : Int64) (fun r11 => (r11 = 0 → P (-2 : Int32) I2 L) ∧ (¬ r11 = 0 → zp_X8_longPower (100000 : Int64) x1 (fun r23 => zp_X8_in x2 (0 : Int64) (r23 - (1 : Int64)) (fun r28 => (¬ r28 = 0 → zp_X8_lay 15 14 (fun I45 L45 => zp_X8_judge_51 P x1 x2 (0 : Int32) I45 L45) I2 L) ∧ (r28 = 0 → P (-2 : Int32) I2 L)) I2 L) I2 L)) I2 L)
set_option maxHeartbeats 4000000 in
set_option maxRecDepth 100000 in
theorem zq_X8_judge {p : Program} {l : Launch} {e : Env} {s : State} {m : MethodId} {args : Array Value} {below : List Frame} {meth : Method} {c : Code} {D : va_G} {ca : Nat → ClassId} {A : Nat → Prop} {a : Nat → Nat}  {P : Int32 → zz_I → zz_L → Prop} {I : zz_I} {L : zz_L} {x1 : Int32} {x2 : Int64} (X : zz_X p s m meth c cX8_judge RX8 (some .int) 5) (hA : ∀ q, s.heap.size ≤ q → A q)   (h : zp_X8_judge x1 x2 P I L) : zz_Go p l e ({ frames := 8, cells := 0, slots := 0, locals := 211 } : Room) s m args below meth c 0 0 (MQ below (zz_Qi D ca zz_dM A a P) args s 0 0 A) D ca zz_dM A 5 0 a [] [(0, .ref (a 0)), (1, .int x1), (2, .long x2)] I L := by
  obtain ⟨hx, hb, hml, hown, zw, hr, hlocks⟩ := id X
  intro H locs ls hB hl
  unfold zp_X8_judge at h
  refine lv_aload_n hx hb dX8_judge_0 rfl (lv_at hl 0 rfl) ?_
  refine lv_iconst (v := (0 : Int32)) hx hb dX8_judge_1 (by decide) ?_
  refine zz_puti hx hb hown zw hB zP_X8_94 zdM_0 rfl dX8_judge_2 (fun H locs hB => ?_)
  obtain ⟨I2, eI2⟩ : ∃ z : zz_I, z = zz_up I 0 0 (0 : Int32) := ⟨_, rfl⟩
  rw [← eI2] at hB
  have h := h I2 eI2
  refine lv_iload_n hx hb dX8_judge_5 rfl (lv_at hl 1 rfl) ?_
  refine lv_i2l (v := x1.toInt64) hx hb dX8_judge_6 rfl ?_
  refine lv_lconst (v := (1 : Int64)) hx hb dX8_judge_7 (by decide) ?_
  refine lv_ldc2 (v := (3 : Int64)) hx hb hown (zz_W_use zw zk_X8_261 rfl) dX8_judge_8 ?_
  refine zz_goip hB hA (zz_runS (As := [.long (x1.toInt64), .long (1 : Int64), .long (3 : Int64)]) (rest := []) hx hb hml hown zw hB zM_X8_101 (zc_X8_in l D ca a I2 L H.size h) rfl hl.1 rfl (Nat.le_of_ble_eq_true rfl) rfl rfl ⟨Nat.le_of_ble_eq_true rfl, Nat.le_of_ble_eq_true rfl⟩ dX8_judge_11 ⟨Nat.le_of_ble_eq_true rfl, Nat.le_of_ble_eq_true rfl⟩) (fun r11 H locs h hB => ?_)
  refine lv_if_eq (tgt := 34) hx hb dX8_judge_14 (by decide) (fun c14 => ?_) (fun c14 => ?_)
  · have h := h.1 c14
    refine lv_bipush (v := (-2 : Int32)) hx hb dX8_judge_34 (by decide) ?_
    exact zz_iret hx hb hr hlocks hB h dX8_judge_36
  · have h := h.2 c14
    refine lv_lload_n hx hb dX8_judge_17 rfl (lv_at hl 2 rfl) ?_
    refine lv_lconst (v := (0 : Int64)) hx hb dX8_judge_18 (by decide) ?_
    refine lv_ldc2 (v := (100000 : Int64)) hx hb hown (zz_W_use zw zk_X8_263 rfl) dX8_judge_19 ?_
    refine lv_iload_n hx hb dX8_judge_22 rfl (lv_at hl 1 rfl) ?_
    refine zz_golp hB hA (zz_runS (As := [.long (100000 : Int64), .int x1]) (rest := [.long (0 : Int64), .long x2]) hx hb hml hown zw hB zM_X8_265 (zc_X8_longPower l D ca a I2 L H.size h) rfl hl.1 rfl (Nat.le_of_ble_eq_true rfl) rfl rfl ⟨Nat.le_of_ble_eq_true rfl, Nat.le_of_ble_eq_true rfl⟩ dX8_judge_23 ⟨Nat.le_of_ble_eq_true rfl, Nat.le_of_ble_eq_true rfl⟩) (fun r23 H locs h hB => ?_)
    refine lv_lconst (v := (1 : Int64)) hx hb dX8_judge_26 (by decide) ?_
    refine lv_lsub hx hb dX8_judge_27 ?_
    refine zz_goip hB hA (zz_runS (As := [.long x2, .long (0 : Int64), .long (r23 - (1 : Int64))]) (rest := []) hx hb hml hown zw hB zM_X8_101 (zc_X8_in l D ca a I2 L H.size h) rfl hl.1 rfl (Nat.le_of_ble_eq_true rfl) rfl rfl ⟨Nat.le_of_ble_eq_true rfl, Nat.le_of_ble_eq_true rfl⟩ dX8_judge_28 ⟨Nat.le_of_ble_eq_true rfl, Nat.le_of_ble_eq_true rfl⟩) (fun r28 H locs h hB => ?_)
    refine lv_if_ne (tgt := 37) hx hb dX8_judge_31 (by decide) (fun c31 => ?_) (fun c31 => ?_)
    · have h := h.1 c31
      refine lv_aload_n hx hb dX8_judge_37 rfl (lv_at hl 0 rfl) ?_
      refine zz_getr (k' := 15) hx hb hown zw hB zF_X8_53 zdM_0 rfl rfl dX8_judge_38 ?_
      refine lv_aload_n hx hb dX8_judge_41 rfl (lv_at hl 0 rfl) ?_
      refine zz_getr (k' := 14) hx hb hown zw hB zF_X8_50 zdM_0 rfl rfl dX8_judge_42 ?_
      refine zz_gov hB hA (zz_runS (As := [.ref (a 15), .ref (a 14)]) (rest := []) hx hb hml hown zw hB zM_X8_141 (zc_X8_lay l D ca a I2 L H.size zdM_15 zdM_14 h) rfl hl.1 rfl (Nat.le_of_ble_eq_true rfl) rfl rfl ⟨Nat.le_of_ble_eq_true rfl, Nat.le_of_ble_eq_true rfl⟩ dX8_judge_45 ⟨Nat.le_of_ble_eq_true rfl, Nat.le_of_ble_eq_true rfl⟩) (fun I45 L45 H locs h hB => ?_)
      refine lv_iconst (v := (0 : Int32)) hx hb dX8_judge_48 (by decide) ?_
      refine lv_istore (lv' := [(4, .int (0 : Int32)), (0, .ref (a 0)), (1, .int x1), (2, .long x2)]) hx hb dX8_judge_49 hl (by decide) rfl (fun ls hl => ?_)
      exact zq_X8_judge_51 X hA  h H locs ls hB (lv_sub hl [1, 2, 3, 0] rfl)
    · have h := h.2 c31
      refine lv_bipush (v := (-2 : Int32)) hx hb dX8_judge_34 (by decide) ?_
      exact zz_iret hx hb hr hlocks hB h dX8_judge_36
theorem zc_X8_judge (l : Launch) (D : va_G) (ca : Nat → ClassId) (a : Nat → Nat) (I : zz_I) (L : zz_L) (sz : Nat) {x1 : Int32} {x2 : Int64} {P : Int32 → zz_I → zz_L → Prop}  (h : zp_X8_judge x1 x2 P I L) : Met l yX8_judge [.code yX8_judge cX8_judge 5 (some .int)] ({ frames := 8, cells := 0, slots := 0, locals := 211 } : Room) (zz_Pre D ca zz_dM [.ref (a 0), .int x1, .long x2] a I L sz) (zz_Qi D ca zz_dM (zz_A ca zz_dM a I L sz) a P) 0 0 (zz_A ca zz_dM a I L sz) :=
  zz_start (by decide) (Nat.le_of_ble_eq_true rfl) (fun p e s m below meth c X hsz hA => zq_X8_judge X hA  h)
def zp_X8_keep_26b (K26 : Int32 → zz_I → zz_L → Prop) (P : Int32 → zz_I → zz_L → Prop) (x1 : Int32) (x2 : Int32) (I : zz_I) (L : zz_L) : Prop := ((43 : Int32) ≤ x2 → P (I 0 5) I L) ∧ (¬ (43 : Int32) ≤ x2 → vp_in x2 43 ∧ (vp_in (((43 : Int32) * x1) + x2) 86 ∧ (∀ I48 : zz_I, I48 = zz_up I 17 (((43 : Int32) * x1) + x2).toNatClampNeg (I 14 x2.toNatClampNeg) → (∀ v49 : Int32, v49 = x2 + (1 : Int32) → (K26 v49 I48 L)))))
set_option maxHeartbeats 4000000 in
set_option maxRecDepth 100000 in
theorem zq_X8_keep_26b {p : Program} {l : Launch} {e : Env} {s : State} {m : MethodId} {args : Array Value} {below : List Frame} {meth : Method} {c : Code} {D : va_G} {ca : Nat → ClassId} {A : Nat → Prop} {a : Nat → Nat} {K26 : Int32 → zz_I → zz_L → Prop} {P : Int32 → zz_I → zz_L → Prop} {I : zz_I} {L : zz_L} {x1 : Int32} {x2 : Int32} (X : zz_X p s m meth c cX8_keep RX8 (some .int) 3) (hA : ∀ q, s.heap.size ≤ q → A q)  (hK26 : ∀ (y2 : Int32) (I8 : zz_I) (L8 : zz_L), K26 y2 I8 L8 → zz_Go p l e ({ frames := 1, cells := 0, slots := 0, locals := 25 } : Room) s m args below meth c 0 0 (MQ below (zz_Qi D ca zz_dM A a P) args s 0 0 A) D ca zz_dM A 3 26 a [] [(0, .ref (a 0)), (1, .int x1), (2, .int y2)] I8 L8) (h : zp_X8_keep_26b K26 P x1 x2 I L) : zz_Go p l e ({ frames := 1, cells := 0, slots := 0, locals := 25 } : Room) s m args below meth c 0 0 (MQ below (zz_Qi D ca zz_dM A a P) args s 0 0 A) D ca zz_dM A 3 26 a [] [(0, .ref (a 0)), (1, .int x1), (2, .int x2)] I L := by
  obtain ⟨hx, hb, hml, hown, zw, hr, hlocks⟩ := id X
  intro H locs ls hB hl
  unfold zp_X8_keep_26b at h
  refine lv_iload_n hx hb dX8_keep_26 rfl (lv_at hl 2 rfl) ?_
  refine lv_bipush (v := (43 : Int32)) hx hb dX8_keep_27 (by decide) ?_
  refine lv_icmp_ge (tgt := 55) hx hb dX8_keep_29 (by decide) (fun c29 => ?_) (fun c29 => ?_)
  · have h := h.1 c29
    refine lv_aload_n hx hb dX8_keep_55 rfl (lv_at hl 0 rfl) ?_
    refine zz_geti hx hb hown zw hB zF_X8_98 zdM_0 rfl dX8_keep_56 ?_
    exact zz_iret hx hb hr hlocks hB h dX8_keep_59
  · have h := h.2 c29
    refine lv_aload_n hx hb dX8_keep_32 rfl (lv_at hl 0 rfl) ?_
    refine zz_getr (k' := 17) hx hb hown zw hB zF_X8_59 zdM_0 rfl rfl dX8_keep_33 ?_
    refine lv_bipush (v := (43 : Int32)) hx hb dX8_keep_36 (by decide) ?_
    refine lv_iload_n hx hb dX8_keep_38 rfl (lv_at hl 1 rfl) ?_
    refine lv_imul hx hb dX8_keep_39 ?_
    refine lv_iload_n hx hb dX8_keep_40 rfl (lv_at hl 2 rfl) ?_
    refine lv_iadd hx hb dX8_keep_41 ?_
    refine lv_aload_n hx hb dX8_keep_42 rfl (lv_at hl 0 rfl) ?_
    refine zz_getr (k' := 14) hx hb hown zw hB zF_X8_50 zdM_0 rfl rfl dX8_keep_43 ?_
    refine lv_iload_n hx hb dX8_keep_46 rfl (lv_at hl 2 rfl) ?_
    obtain ⟨hi47, h⟩ := h
    refine zz_iald hx hb hB zdM_14 hi47 dX8_keep_47 ?_
    obtain ⟨hi48, h⟩ := h
    refine zz_iast hx hb hB zdM_17 hi48 dX8_keep_48 (fun H locs hB => ?_)
    obtain ⟨I48, eI48⟩ : ∃ z : zz_I, z = zz_up I 17 (((43 : Int32) * x1) + x2).toNatClampNeg (I 14 x2.toNatClampNeg) := ⟨_, rfl⟩
    rw [← eI48] at hB
    have h := h I48 eI48
    obtain ⟨v49, ev49⟩ : ∃ z : Int32, z = x2 + (1 : Int32) := ⟨_, rfl⟩
    have h := h v49 ev49
    refine lv_iinc (v := v49) (lv' := [(2, .int v49), (0, .ref (a 0)), (1, .int x1)]) hx hb dX8_keep_49 hl (k := 2) rfl (by rw [ev49]; rfl) (by decide) rfl (fun ls hl => ?_)
    refine lv_goto (tgt := 26) hx hb dX8_keep_52 (by decide) ?_
    exact hK26 _ _ _ h H locs ls hB (lv_sub hl [1, 2, 0] rfl)
def zp_X8_keep_26  (P : Int32 → zz_I → zz_L → Prop) (x1 : Int32) (x2 : Int32) (I : zz_I) (L : zz_L) : Prop := ∃ (Inv : Int32 → zz_I → zz_L → Prop) (μ : Int32 → zz_I → zz_L → Nat), Inv x2 I L ∧ ∀ (y2 : Int32) (I8 : zz_I) (L8 : zz_L), Inv y2 I8 L8 → zp_X8_keep_26b  (fun z2 I7 L7 => Inv z2 I7 L7 ∧ μ z2 I7 L7 < μ y2 I8 L8) P x1 y2 I8 L8
set_option maxHeartbeats 4000000 in
set_option maxRecDepth 100000 in
theorem zq_X8_keep_26 {p : Program} {l : Launch} {e : Env} {s : State} {m : MethodId} {args : Array Value} {below : List Frame} {meth : Method} {c : Code} {D : va_G} {ca : Nat → ClassId} {A : Nat → Prop} {a : Nat → Nat}  {P : Int32 → zz_I → zz_L → Prop} {I : zz_I} {L : zz_L} {x1 : Int32} {x2 : Int32} (X : zz_X p s m meth c cX8_keep RX8 (some .int) 3) (hA : ∀ q, s.heap.size ≤ q → A q)   (h : zp_X8_keep_26  P x1 x2 I L) : zz_Go p l e ({ frames := 1, cells := 0, slots := 0, locals := 25 } : Room) s m args below meth c 0 0 (MQ below (zz_Qi D ca zz_dM A a P) args s 0 0 A) D ca zz_dM A 3 26 a [] [(0, .ref (a 0)), (1, .int x1), (2, .int x2)] I L := by
  unfold zp_X8_keep_26 at h
  obtain ⟨Inv, μ, hv0, hs⟩ := h
  have key : ∀ (n9 : Nat) (y2 : Int32) (I8 : zz_I) (L8 : zz_L), μ y2 I8 L8 < n9 → Inv y2 I8 L8 → zz_Go p l e ({ frames := 1, cells := 0, slots := 0, locals := 25 } : Room) s m args below meth c 0 0 (MQ below (zz_Qi D ca zz_dM A a P) args s 0 0 A) D ca zz_dM A 3 26 a [] [(0, .ref (a 0)), (1, .int x1), (2, .int y2)] I8 L8 := by
    intro n9
    induction n9 with
    | zero => intro y2 I8 L8 hn; exact absurd hn (Nat.not_lt_zero _)
    | succ n9 ih =>
      intro y2 I8 L8 hn hi
      exact zq_X8_keep_26b (K26 := (fun z2 I7 L7 => Inv z2 I7 L7 ∧ μ z2 I7 L7 < μ y2 I8 L8)) X hA   (fun z2 I7 L7 hz => ih z2 I7 L7 (Nat.lt_of_lt_of_le hz.2 (Nat.le_of_lt_succ hn)) hz.1) (hs y2 I8 L8 hi)
  exact key _ x2 I L (Nat.lt_succ_self _) hv0
def zp_X8_keep (x1 : Int32) (P : Int32 → zz_I → zz_L → Prop) (I : zz_I) (L : zz_L) : Prop := ∀ I2 : zz_I, I2 = zz_up I 0 0 (0 : Int32) → (zp_X8_in (x1.toInt64) (0 : Int64) (1 : Int64) (fun r9 => (¬ r9 = 0 → vp_in x1 2 ∧ (∀ I23 : zz_I, I23 = zz_up I2 18 x1.toNatClampNeg (vp_nar .boolean (1 : Int32)) → (zp_X8_keep_26 P x1 (0 : Int32) I23 L))) ∧ (r9 = 0 → P (-1 : Int32) I2 L)) I2 L)
set_option maxHeartbeats 4000000 in
set_option maxRecDepth 100000 in
theorem zq_X8_keep {p : Program} {l : Launch} {e : Env} {s : State} {m : MethodId} {args : Array Value} {below : List Frame} {meth : Method} {c : Code} {D : va_G} {ca : Nat → ClassId} {A : Nat → Prop} {a : Nat → Nat}  {P : Int32 → zz_I → zz_L → Prop} {I : zz_I} {L : zz_L} {x1 : Int32} (X : zz_X p s m meth c cX8_keep RX8 (some .int) 3) (hA : ∀ q, s.heap.size ≤ q → A q)   (h : zp_X8_keep x1 P I L) : zz_Go p l e ({ frames := 1, cells := 0, slots := 0, locals := 25 } : Room) s m args below meth c 0 0 (MQ below (zz_Qi D ca zz_dM A a P) args s 0 0 A) D ca zz_dM A 3 0 a [] [(0, .ref (a 0)), (1, .int x1)] I L := by
  obtain ⟨hx, hb, hml, hown, zw, hr, hlocks⟩ := id X
  intro H locs ls hB hl
  unfold zp_X8_keep at h
  refine lv_aload_n hx hb dX8_keep_0 rfl (lv_at hl 0 rfl) ?_
  refine lv_iconst (v := (0 : Int32)) hx hb dX8_keep_1 (by decide) ?_
  refine zz_puti hx hb hown zw hB zP_X8_94 zdM_0 rfl dX8_keep_2 (fun H locs hB => ?_)
  obtain ⟨I2, eI2⟩ : ∃ z : zz_I, z = zz_up I 0 0 (0 : Int32) := ⟨_, rfl⟩
  rw [← eI2] at hB
  have h := h I2 eI2
  refine lv_iload_n hx hb dX8_keep_5 rfl (lv_at hl 1 rfl) ?_
  refine lv_i2l (v := x1.toInt64) hx hb dX8_keep_6 rfl ?_
  refine lv_lconst (v := (0 : Int64)) hx hb dX8_keep_7 (by decide) ?_
  refine lv_lconst (v := (1 : Int64)) hx hb dX8_keep_8 (by decide) ?_
  refine zz_goip hB hA (zz_runS (As := [.long (x1.toInt64), .long (0 : Int64), .long (1 : Int64)]) (rest := []) hx hb hml hown zw hB zM_X8_101 (zc_X8_in l D ca a I2 L H.size h) rfl hl.1 rfl (Nat.le_of_ble_eq_true rfl) rfl rfl ⟨Nat.le_of_ble_eq_true rfl, Nat.le_of_ble_eq_true rfl⟩ dX8_keep_9 ⟨Nat.le_of_ble_eq_true rfl, Nat.le_of_ble_eq_true rfl⟩) (fun r9 H locs h hB => ?_)
  refine lv_if_ne (tgt := 17) hx hb dX8_keep_12 (by decide) (fun c12 => ?_) (fun c12 => ?_)
  · have h := h.1 c12
    refine lv_aload_n hx hb dX8_keep_17 rfl (lv_at hl 0 rfl) ?_
    refine zz_getr (k' := 18) hx hb hown zw hB zF_X8_62 zdM_0 rfl rfl dX8_keep_18 ?_
    refine lv_iload_n hx hb dX8_keep_21 rfl (lv_at hl 1 rfl) ?_
    refine lv_iconst (v := (1 : Int32)) hx hb dX8_keep_22 (by decide) ?_
    obtain ⟨hi23, h⟩ := h
    refine zz_zast hx hb hB zdM_18 hi23 dX8_keep_23 (fun H locs hB => ?_)
    obtain ⟨I23, eI23⟩ : ∃ z : zz_I, z = zz_up I2 18 x1.toNatClampNeg (vp_nar .boolean (1 : Int32)) := ⟨_, rfl⟩
    rw [← eI23] at hB
    have h := h I23 eI23
    refine lv_iconst (v := (0 : Int32)) hx hb dX8_keep_24 (by decide) ?_
    refine lv_istore_n (lv' := [(2, .int (0 : Int32)), (0, .ref (a 0)), (1, .int x1)]) hx hb dX8_keep_25 rfl hl (by decide) rfl (fun ls hl => ?_)
    exact zq_X8_keep_26 X hA  h H locs ls hB (lv_sub hl [1, 2, 0] rfl)
  · have h := h.2 c12
    refine lv_iconst (v := (-1 : Int32)) hx hb dX8_keep_15 (by decide) ?_
    exact zz_iret hx hb hr hlocks hB h dX8_keep_16
theorem zc_X8_keep (l : Launch) (D : va_G) (ca : Nat → ClassId) (a : Nat → Nat) (I : zz_I) (L : zz_L) (sz : Nat) {x1 : Int32} {P : Int32 → zz_I → zz_L → Prop}  (h : zp_X8_keep x1 P I L) : Met l yX8_keep [.code yX8_keep cX8_keep 3 (some .int)] ({ frames := 1, cells := 0, slots := 0, locals := 25 } : Room) (zz_Pre D ca zz_dM [.ref (a 0), .int x1] a I L sz) (zz_Qi D ca zz_dM (zz_A ca zz_dM a I L sz) a P) 0 0 (zz_A ca zz_dM a I L sz) :=
  zz_start (by decide) (Nat.le_of_ble_eq_true rfl) (fun p e s m below meth c X hsz hA => zq_X8_keep X hA  h)
def zp_X8_lies (x1 : Int32) (x2 : Int32) (P : Int32 → zz_I → zz_L → Prop) (I : zz_I) (L : zz_L) : Prop := ∀ I2 : zz_I, I2 = zz_up I 0 0 (0 : Int32) → (zp_X8_noWord x1 (fun r7 => (¬ r7 = 0 → P (-1 : Int32) I2 L) ∧ (r7 = 0 → zp_X8_noUnit x2 (fun r15 => (r15 = 0 → zp_X8_wordLies 14 x1 x2 (fun r30 => (r30 = 0 → P (0 : Int32) I2 L) ∧ (¬ r30 = 0 → P (1 : Int32) I2 L)) I2 L) ∧ (¬ r15 = 0 → P (-1 : Int32) I2 L)) I2 L)) I2 L)
set_option maxHeartbeats 4000000 in
set_option maxRecDepth 100000 in
theorem zq_X8_lies {p : Program} {l : Launch} {e : Env} {s : State} {m : MethodId} {args : Array Value} {below : List Frame} {meth : Method} {c : Code} {D : va_G} {ca : Nat → ClassId} {A : Nat → Prop} {a : Nat → Nat}  {P : Int32 → zz_I → zz_L → Prop} {I : zz_I} {L : zz_L} {x1 : Int32} {x2 : Int32} (X : zz_X p s m meth c cX8_lies RX8 (some .int) 3) (hA : ∀ q, s.heap.size ≤ q → A q)   (h : zp_X8_lies x1 x2 P I L) : zz_Go p l e ({ frames := 3, cells := 0, slots := 0, locals := 75 } : Room) s m args below meth c 0 0 (MQ below (zz_Qi D ca zz_dM A a P) args s 0 0 A) D ca zz_dM A 3 0 a [] [(0, .ref (a 0)), (1, .int x1), (2, .int x2)] I L := by
  obtain ⟨hx, hb, hml, hown, zw, hr, hlocks⟩ := id X
  intro H locs ls hB hl
  unfold zp_X8_lies at h
  refine lv_aload_n hx hb dX8_lies_0 rfl (lv_at hl 0 rfl) ?_
  refine lv_iconst (v := (0 : Int32)) hx hb dX8_lies_1 (by decide) ?_
  refine zz_puti hx hb hown zw hB zP_X8_94 zdM_0 rfl dX8_lies_2 (fun H locs hB => ?_)
  obtain ⟨I2, eI2⟩ : ∃ z : zz_I, z = zz_up I 0 0 (0 : Int32) := ⟨_, rfl⟩
  rw [← eI2] at hB
  have h := h I2 eI2
  refine lv_aload_n hx hb dX8_lies_5 rfl (lv_at hl 0 rfl) ?_
  refine lv_iload_n hx hb dX8_lies_6 rfl (lv_at hl 1 rfl) ?_
  refine zz_goip hB hA (zz_runV (As := [.int x1]) (rest := []) hx hb hml hown zw hB zM_X8_148 (zc_X8_noWord l D ca a I2 L H.size h) zdM_0 rfl rfl hl.1 rfl (Nat.le_of_ble_eq_true rfl) rfl rfl ⟨Nat.le_of_ble_eq_true rfl, Nat.le_of_ble_eq_true rfl⟩ dX8_lies_7 ⟨Nat.le_of_ble_eq_true rfl, Nat.le_of_ble_eq_true rfl⟩) (fun r7 H locs h hB => ?_)
  refine lv_if_ne (tgt := 21) hx hb dX8_lies_10 (by decide) (fun c10 => ?_) (fun c10 => ?_)
  · have h := h.1 c10
    refine lv_iconst (v := (-1 : Int32)) hx hb dX8_lies_21 (by decide) ?_
    exact zz_iret hx hb hr hlocks hB h dX8_lies_22
  · have h := h.2 c10
    refine lv_aload_n hx hb dX8_lies_13 rfl (lv_at hl 0 rfl) ?_
    refine lv_iload_n hx hb dX8_lies_14 rfl (lv_at hl 2 rfl) ?_
    refine zz_goip hB hA (zz_runV (As := [.int x2]) (rest := []) hx hb hml hown zw hB zM_X8_155 (zc_X8_noUnit l D ca a I2 L H.size h) zdM_0 rfl rfl hl.1 rfl (Nat.le_of_ble_eq_true rfl) rfl rfl ⟨Nat.le_of_ble_eq_true rfl, Nat.le_of_ble_eq_true rfl⟩ dX8_lies_15 ⟨Nat.le_of_ble_eq_true rfl, Nat.le_of_ble_eq_true rfl⟩) (fun r15 H locs h hB => ?_)
    refine lv_if_eq (tgt := 23) hx hb dX8_lies_18 (by decide) (fun c18 => ?_) (fun c18 => ?_)
    · have h := h.1 c18
      refine lv_aload_n hx hb dX8_lies_23 rfl (lv_at hl 0 rfl) ?_
      refine lv_aload_n hx hb dX8_lies_24 rfl (lv_at hl 0 rfl) ?_
      refine zz_getr (k' := 14) hx hb hown zw hB zF_X8_50 zdM_0 rfl rfl dX8_lies_25 ?_
      refine lv_iload_n hx hb dX8_lies_28 rfl (lv_at hl 1 rfl) ?_
      refine lv_iload_n hx hb dX8_lies_29 rfl (lv_at hl 2 rfl) ?_
      refine zz_goip hB hA (zz_runV (As := [.ref (a 14), .int x1, .int x2]) (rest := []) hx hb hml hown zw hB zM_X8_193 (zc_X8_wordLies l D ca a I2 L H.size zdM_14 h) zdM_0 rfl rfl hl.1 rfl (Nat.le_of_ble_eq_true rfl) rfl rfl ⟨Nat.le_of_ble_eq_true rfl, Nat.le_of_ble_eq_true rfl⟩ dX8_lies_30 ⟨Nat.le_of_ble_eq_true rfl, Nat.le_of_ble_eq_true rfl⟩) (fun r30 H locs h hB => ?_)
      refine lv_if_eq (tgt := 40) hx hb dX8_lies_33 (by decide) (fun c33 => ?_) (fun c33 => ?_)
      · have h := h.1 c33
        refine lv_iconst (v := (0 : Int32)) hx hb dX8_lies_40 (by decide) ?_
        exact zz_iret hx hb hr hlocks hB h dX8_lies_41
      · have h := h.2 c33
        refine lv_iconst (v := (1 : Int32)) hx hb dX8_lies_36 (by decide) ?_
        refine lv_goto (tgt := 41) hx hb dX8_lies_37 (by decide) ?_
        exact zz_iret hx hb hr hlocks hB h dX8_lies_41
    · have h := h.2 c18
      refine lv_iconst (v := (-1 : Int32)) hx hb dX8_lies_21 (by decide) ?_
      exact zz_iret hx hb hr hlocks hB h dX8_lies_22
theorem zc_X8_lies (l : Launch) (D : va_G) (ca : Nat → ClassId) (a : Nat → Nat) (I : zz_I) (L : zz_L) (sz : Nat) {x1 : Int32} {x2 : Int32} {P : Int32 → zz_I → zz_L → Prop}  (h : zp_X8_lies x1 x2 P I L) : Met l yX8_lies [.code yX8_lies cX8_lies 3 (some .int)] ({ frames := 3, cells := 0, slots := 0, locals := 75 } : Room) (zz_Pre D ca zz_dM [.ref (a 0), .int x1, .int x2] a I L sz) (zz_Qi D ca zz_dM (zz_A ca zz_dM a I L sz) a P) 0 0 (zz_A ca zz_dM a I L sz) :=
  zz_start (by decide) (Nat.le_of_ble_eq_true rfl) (fun p e s m below meth c X hsz hA => zq_X8_lies X hA  h)
def zp_X8_line (x1 : Int32) (P : Int32 → zz_I → zz_L → Prop) (I : zz_I) (L : zz_L) : Prop := ∀ I2 : zz_I, I2 = zz_up I 0 0 (0 : Int32) → (zp_X8_noUnit x1 (fun r7 => (r7 = 0 → vp_in ((19 : Int32) + x1) 43 ∧ (P (I2 14 ((19 : Int32) + x1).toNatClampNeg) I2 L)) ∧ (¬ r7 = 0 → P (-1 : Int32) I2 L)) I2 L)
set_option maxHeartbeats 4000000 in
set_option maxRecDepth 100000 in
theorem zq_X8_line {p : Program} {l : Launch} {e : Env} {s : State} {m : MethodId} {args : Array Value} {below : List Frame} {meth : Method} {c : Code} {D : va_G} {ca : Nat → ClassId} {A : Nat → Prop} {a : Nat → Nat}  {P : Int32 → zz_I → zz_L → Prop} {I : zz_I} {L : zz_L} {x1 : Int32} (X : zz_X p s m meth c cX8_line RX8 (some .int) 2) (hA : ∀ q, s.heap.size ≤ q → A q)   (h : zp_X8_line x1 P I L) : zz_Go p l e ({ frames := 2, cells := 0, slots := 0, locals := 46 } : Room) s m args below meth c 0 0 (MQ below (zz_Qi D ca zz_dM A a P) args s 0 0 A) D ca zz_dM A 2 0 a [] [(0, .ref (a 0)), (1, .int x1)] I L := by
  obtain ⟨hx, hb, hml, hown, zw, hr, hlocks⟩ := id X
  intro H locs ls hB hl
  unfold zp_X8_line at h
  refine lv_aload_n hx hb dX8_line_0 rfl (lv_at hl 0 rfl) ?_
  refine lv_iconst (v := (0 : Int32)) hx hb dX8_line_1 (by decide) ?_
  refine zz_puti hx hb hown zw hB zP_X8_94 zdM_0 rfl dX8_line_2 (fun H locs hB => ?_)
  obtain ⟨I2, eI2⟩ : ∃ z : zz_I, z = zz_up I 0 0 (0 : Int32) := ⟨_, rfl⟩
  rw [← eI2] at hB
  have h := h I2 eI2
  refine lv_aload_n hx hb dX8_line_5 rfl (lv_at hl 0 rfl) ?_
  refine lv_iload_n hx hb dX8_line_6 rfl (lv_at hl 1 rfl) ?_
  refine zz_goip hB hA (zz_runV (As := [.int x1]) (rest := []) hx hb hml hown zw hB zM_X8_155 (zc_X8_noUnit l D ca a I2 L H.size h) zdM_0 rfl rfl hl.1 rfl (Nat.le_of_ble_eq_true rfl) rfl rfl ⟨Nat.le_of_ble_eq_true rfl, Nat.le_of_ble_eq_true rfl⟩ dX8_line_7 ⟨Nat.le_of_ble_eq_true rfl, Nat.le_of_ble_eq_true rfl⟩) (fun r7 H locs h hB => ?_)
  refine lv_if_eq (tgt := 17) hx hb dX8_line_10 (by decide) (fun c10 => ?_) (fun c10 => ?_)
  · have h := h.1 c10
    refine lv_aload_n hx hb dX8_line_17 rfl (lv_at hl 0 rfl) ?_
    refine zz_getr (k' := 14) hx hb hown zw hB zF_X8_50 zdM_0 rfl rfl dX8_line_18 ?_
    refine lv_bipush (v := (19 : Int32)) hx hb dX8_line_21 (by decide) ?_
    refine lv_iload_n hx hb dX8_line_23 rfl (lv_at hl 1 rfl) ?_
    refine lv_iadd hx hb dX8_line_24 ?_
    obtain ⟨hi25, h⟩ := h
    refine zz_iald hx hb hB zdM_14 hi25 dX8_line_25 ?_
    exact zz_iret hx hb hr hlocks hB h dX8_line_26
  · have h := h.2 c10
    refine lv_iconst (v := (-1 : Int32)) hx hb dX8_line_13 (by decide) ?_
    refine lv_goto (tgt := 26) hx hb dX8_line_14 (by decide) ?_
    exact zz_iret hx hb hr hlocks hB h dX8_line_26
theorem zc_X8_line (l : Launch) (D : va_G) (ca : Nat → ClassId) (a : Nat → Nat) (I : zz_I) (L : zz_L) (sz : Nat) {x1 : Int32} {P : Int32 → zz_I → zz_L → Prop}  (h : zp_X8_line x1 P I L) : Met l yX8_line [.code yX8_line cX8_line 2 (some .int)] ({ frames := 2, cells := 0, slots := 0, locals := 46 } : Room) (zz_Pre D ca zz_dM [.ref (a 0), .int x1] a I L sz) (zz_Qi D ca zz_dM (zz_A ca zz_dM a I L sz) a P) 0 0 (zz_A ca zz_dM a I L sz) :=
  zz_start (by decide) (Nat.le_of_ble_eq_true rfl) (fun p e s m below meth c X hsz hA => zq_X8_line X hA  h)
def zp_X8_weighSets_13b (K13 : Int32 → zz_I → zz_L → Prop) (P : zz_I → zz_L → Prop) (x1 : Int32) (I : zz_I) (L : zz_L) : Prop := (((1 : Int32) <<< ((I 0 5) &&& 31)) ≤ x1 → P I L) ∧ (¬ ((1 : Int32) <<< ((I 0 5) &&& 31)) ≤ x1 → vp_in (1 : Int32) 43 ∧ (vp_in (1 : Int32) 43 ∧ (∀ I47 : zz_I, I47 = zz_up I 15 (1 : Int32).toNatClampNeg ((I 14 (1 : Int32).toNatClampNeg) ||| ((((1 : Int32) <<< ((I 0 5) &&& 31)) - (1 : Int32)) &&& (x1 ^^^ (-1 : Int32)))) → (zp_X8_all 15 (fun r58 I58 L58 => vp_in x1 256 ∧ (∀ L61 : zz_L, L61 = zz_up L58 26 x1.toNatClampNeg r58 → (∀ v62 : Int32, v62 = x1 + (1 : Int32) → (K13 v62 I58 L61)))) I47 L))))
set_option maxHeartbeats 4000000 in
set_option maxRecDepth 100000 in
theorem zq_X8_weighSets_13b {p : Program} {l : Launch} {e : Env} {s : State} {m : MethodId} {args : Array Value} {below : List Frame} {meth : Method} {c : Code} {D : va_G} {ca : Nat → ClassId} {A : Nat → Prop} {a : Nat → Nat} {K13 : Int32 → zz_I → zz_L → Prop} {P : zz_I → zz_L → Prop} {I : zz_I} {L : zz_L} {x1 : Int32} (X : zz_X p s m meth c cX8_weighSets RX8 none 2) (hA : ∀ q, s.heap.size ≤ q → A q)  (hK13 : ∀ (y1 : Int32) (I8 : zz_I) (L8 : zz_L), K13 y1 I8 L8 → zz_Go p l e ({ frames := 6, cells := 0, slots := 0, locals := 148 } : Room) s m args below meth c 0 0 (MQ below (zz_Qv D ca zz_dM A a P) args s 0 0 A) D ca zz_dM A 2 13 a [] [(0, .ref (a 0)), (1, .int y1)] I8 L8) (h : zp_X8_weighSets_13b K13 P x1 I L) : zz_Go p l e ({ frames := 6, cells := 0, slots := 0, locals := 148 } : Room) s m args below meth c 0 0 (MQ below (zz_Qv D ca zz_dM A a P) args s 0 0 A) D ca zz_dM A 2 13 a [] [(0, .ref (a 0)), (1, .int x1)] I L := by
  obtain ⟨hx, hb, hml, hown, zw, hr, hlocks⟩ := id X
  intro H locs ls hB hl
  unfold zp_X8_weighSets_13b at h
  refine lv_iload_n hx hb dX8_weighSets_13 rfl (lv_at hl 1 rfl) ?_
  refine lv_iconst (v := (1 : Int32)) hx hb dX8_weighSets_14 (by decide) ?_
  refine lv_aload_n hx hb dX8_weighSets_15 rfl (lv_at hl 0 rfl) ?_
  refine zz_geti hx hb hown zw hB zF_X8_98 zdM_0 rfl dX8_weighSets_16 ?_
  refine lv_ishl hx hb dX8_weighSets_19 ?_
  refine lv_icmp_ge (tgt := 68) hx hb dX8_weighSets_20 (by decide) (fun c20 => ?_) (fun c20 => ?_)
  · have h := h.1 c20
    exact zz_vret hx hb hr hlocks hB h dX8_weighSets_68
  · have h := h.2 c20
    refine lv_aload_n hx hb dX8_weighSets_23 rfl (lv_at hl 0 rfl) ?_
    refine zz_getr (k' := 15) hx hb hown zw hB zF_X8_53 zdM_0 rfl rfl dX8_weighSets_24 ?_
    refine lv_iconst (v := (1 : Int32)) hx hb dX8_weighSets_27 (by decide) ?_
    refine lv_aload_n hx hb dX8_weighSets_28 rfl (lv_at hl 0 rfl) ?_
    refine zz_getr (k' := 14) hx hb hown zw hB zF_X8_50 zdM_0 rfl rfl dX8_weighSets_29 ?_
    refine lv_iconst (v := (1 : Int32)) hx hb dX8_weighSets_32 (by decide) ?_
    obtain ⟨hi33, h⟩ := h
    refine zz_iald hx hb hB zdM_14 hi33 dX8_weighSets_33 ?_
    refine lv_iconst (v := (1 : Int32)) hx hb dX8_weighSets_34 (by decide) ?_
    refine lv_aload_n hx hb dX8_weighSets_35 rfl (lv_at hl 0 rfl) ?_
    refine zz_geti hx hb hown zw hB zF_X8_98 zdM_0 rfl dX8_weighSets_36 ?_
    refine lv_ishl hx hb dX8_weighSets_39 ?_
    refine lv_iconst (v := (1 : Int32)) hx hb dX8_weighSets_40 (by decide) ?_
    refine lv_isub hx hb dX8_weighSets_41 ?_
    refine lv_iload_n hx hb dX8_weighSets_42 rfl (lv_at hl 1 rfl) ?_
    refine lv_iconst (v := (-1 : Int32)) hx hb dX8_weighSets_43 (by decide) ?_
    refine lv_ixor hx hb dX8_weighSets_44 ?_
    refine lv_iand hx hb dX8_weighSets_45 ?_
    refine lv_ior hx hb dX8_weighSets_46 ?_
    obtain ⟨hi47, h⟩ := h
    refine zz_iast hx hb hB zdM_15 hi47 dX8_weighSets_47 (fun H locs hB => ?_)
    obtain ⟨I47, eI47⟩ : ∃ z : zz_I, z = zz_up I 15 (1 : Int32).toNatClampNeg ((I 14 (1 : Int32).toNatClampNeg) ||| ((((1 : Int32) <<< ((I 0 5) &&& 31)) - (1 : Int32)) &&& (x1 ^^^ (-1 : Int32)))) := ⟨_, rfl⟩
    rw [← eI47] at hB
    have h := h I47 eI47
    refine lv_aload_n hx hb dX8_weighSets_48 rfl (lv_at hl 0 rfl) ?_
    refine zz_getr (k' := 26) hx hb hown zw hB zF_X8_87 zdM_0 rfl rfl dX8_weighSets_49 ?_
    refine lv_iload_n hx hb dX8_weighSets_52 rfl (lv_at hl 1 rfl) ?_
    refine lv_aload_n hx hb dX8_weighSets_53 rfl (lv_at hl 0 rfl) ?_
    refine lv_aload_n hx hb dX8_weighSets_54 rfl (lv_at hl 0 rfl) ?_
    refine zz_getr (k' := 15) hx hb hown zw hB zF_X8_53 zdM_0 rfl rfl dX8_weighSets_55 ?_
    refine zz_gol hB hA (zz_runV (As := [.ref (a 15)]) (rest := [.int x1, .ref (a 26)]) hx hb hml hown zw hB zM_X8_231 (zc_X8_all l D ca a I47 L H.size zdM_15 h) zdM_0 rfl rfl hl.1 rfl (Nat.le_of_ble_eq_true rfl) rfl rfl ⟨Nat.le_of_ble_eq_true rfl, Nat.le_of_ble_eq_true rfl⟩ dX8_weighSets_58 ⟨Nat.le_of_ble_eq_true rfl, Nat.le_of_ble_eq_true rfl⟩) (fun r58 I58 L58 H locs h hB => ?_)
    obtain ⟨hi61, h⟩ := h
    refine zz_last hx hb hB zdM_26 hi61 dX8_weighSets_61 (fun H locs hB => ?_)
    obtain ⟨L61, eL61⟩ : ∃ z : zz_L, z = zz_up L58 26 x1.toNatClampNeg r58 := ⟨_, rfl⟩
    rw [← eL61] at hB
    have h := h L61 eL61
    obtain ⟨v62, ev62⟩ : ∃ z : Int32, z = x1 + (1 : Int32) := ⟨_, rfl⟩
    have h := h v62 ev62
    refine lv_iinc (v := v62) (lv' := [(1, .int v62), (0, .ref (a 0))]) hx hb dX8_weighSets_62 hl (k := 1) rfl (by rw [ev62]; rfl) (by decide) rfl (fun ls hl => ?_)
    refine lv_goto (tgt := 13) hx hb dX8_weighSets_65 (by decide) ?_
    exact hK13 _ _ _ h H locs ls hB (lv_sub hl [1, 0] rfl)
def zp_X8_weighSets_13  (P : zz_I → zz_L → Prop) (x1 : Int32) (I : zz_I) (L : zz_L) : Prop := ∃ (Inv : Int32 → zz_I → zz_L → Prop) (μ : Int32 → zz_I → zz_L → Nat), Inv x1 I L ∧ ∀ (y1 : Int32) (I8 : zz_I) (L8 : zz_L), Inv y1 I8 L8 → zp_X8_weighSets_13b  (fun z1 I7 L7 => Inv z1 I7 L7 ∧ μ z1 I7 L7 < μ y1 I8 L8) P y1 I8 L8
set_option maxHeartbeats 4000000 in
set_option maxRecDepth 100000 in
theorem zq_X8_weighSets_13 {p : Program} {l : Launch} {e : Env} {s : State} {m : MethodId} {args : Array Value} {below : List Frame} {meth : Method} {c : Code} {D : va_G} {ca : Nat → ClassId} {A : Nat → Prop} {a : Nat → Nat}  {P : zz_I → zz_L → Prop} {I : zz_I} {L : zz_L} {x1 : Int32} (X : zz_X p s m meth c cX8_weighSets RX8 none 2) (hA : ∀ q, s.heap.size ≤ q → A q)   (h : zp_X8_weighSets_13  P x1 I L) : zz_Go p l e ({ frames := 6, cells := 0, slots := 0, locals := 148 } : Room) s m args below meth c 0 0 (MQ below (zz_Qv D ca zz_dM A a P) args s 0 0 A) D ca zz_dM A 2 13 a [] [(0, .ref (a 0)), (1, .int x1)] I L := by
  unfold zp_X8_weighSets_13 at h
  obtain ⟨Inv, μ, hv0, hs⟩ := h
  have key : ∀ (n9 : Nat) (y1 : Int32) (I8 : zz_I) (L8 : zz_L), μ y1 I8 L8 < n9 → Inv y1 I8 L8 → zz_Go p l e ({ frames := 6, cells := 0, slots := 0, locals := 148 } : Room) s m args below meth c 0 0 (MQ below (zz_Qv D ca zz_dM A a P) args s 0 0 A) D ca zz_dM A 2 13 a [] [(0, .ref (a 0)), (1, .int y1)] I8 L8 := by
    intro n9
    induction n9 with
    | zero => intro y1 I8 L8 hn; exact absurd hn (Nat.not_lt_zero _)
    | succ n9 ih =>
      intro y1 I8 L8 hn hi
      exact zq_X8_weighSets_13b (K13 := (fun z1 I7 L7 => Inv z1 I7 L7 ∧ μ z1 I7 L7 < μ y1 I8 L8)) X hA   (fun z1 I7 L7 hz => ih z1 I7 L7 (Nat.lt_of_lt_of_le hz.2 (Nat.le_of_lt_succ hn)) hz.1) (hs y1 I8 L8 hi)
  exact key _ x1 I L (Nat.lt_succ_self _) hv0
def zp_X8_weighSets  (P : zz_I → zz_L → Prop) (I : zz_I) (L : zz_L) : Prop := zp_X8_lay 15 14 (fun I8 L8 => zp_X8_weighSets_13 P (0 : Int32) I8 L8) I L
set_option maxHeartbeats 4000000 in
set_option maxRecDepth 100000 in
theorem zq_X8_weighSets {p : Program} {l : Launch} {e : Env} {s : State} {m : MethodId} {args : Array Value} {below : List Frame} {meth : Method} {c : Code} {D : va_G} {ca : Nat → ClassId} {A : Nat → Prop} {a : Nat → Nat}  {P : zz_I → zz_L → Prop} {I : zz_I} {L : zz_L}  (X : zz_X p s m meth c cX8_weighSets RX8 none 2) (hA : ∀ q, s.heap.size ≤ q → A q)   (h : zp_X8_weighSets  P I L) : zz_Go p l e ({ frames := 6, cells := 0, slots := 0, locals := 148 } : Room) s m args below meth c 0 0 (MQ below (zz_Qv D ca zz_dM A a P) args s 0 0 A) D ca zz_dM A 2 0 a [] [(0, .ref (a 0))] I L := by
  obtain ⟨hx, hb, hml, hown, zw, hr, hlocks⟩ := id X
  intro H locs ls hB hl
  unfold zp_X8_weighSets at h
  refine lv_aload_n hx hb dX8_weighSets_0 rfl (lv_at hl 0 rfl) ?_
  refine zz_getr (k' := 15) hx hb hown zw hB zF_X8_53 zdM_0 rfl rfl dX8_weighSets_1 ?_
  refine lv_aload_n hx hb dX8_weighSets_4 rfl (lv_at hl 0 rfl) ?_
  refine zz_getr (k' := 14) hx hb hown zw hB zF_X8_50 zdM_0 rfl rfl dX8_weighSets_5 ?_
  refine zz_gov hB hA (zz_runS (As := [.ref (a 15), .ref (a 14)]) (rest := []) hx hb hml hown zw hB zM_X8_141 (zc_X8_lay l D ca a I L H.size zdM_15 zdM_14 h) rfl hl.1 rfl (Nat.le_of_ble_eq_true rfl) rfl rfl ⟨Nat.le_of_ble_eq_true rfl, Nat.le_of_ble_eq_true rfl⟩ dX8_weighSets_8 ⟨Nat.le_of_ble_eq_true rfl, Nat.le_of_ble_eq_true rfl⟩) (fun I8 L8 H locs h hB => ?_)
  refine lv_iconst (v := (0 : Int32)) hx hb dX8_weighSets_11 (by decide) ?_
  refine lv_istore_n (lv' := [(1, .int (0 : Int32)), (0, .ref (a 0))]) hx hb dX8_weighSets_12 rfl hl (by decide) rfl (fun ls hl => ?_)
  exact zq_X8_weighSets_13 X hA  h H locs ls hB (lv_sub hl [1, 0] rfl)
theorem zc_X8_weighSets (l : Launch) (D : va_G) (ca : Nat → ClassId) (a : Nat → Nat) (I : zz_I) (L : zz_L) (sz : Nat)  {P : zz_I → zz_L → Prop}  (h : zp_X8_weighSets  P I L) : Met l yX8_weighSets [.code yX8_weighSets cX8_weighSets 2 none] ({ frames := 6, cells := 0, slots := 0, locals := 148 } : Room) (zz_Pre D ca zz_dM [.ref (a 0)] a I L sz) (zz_Qv D ca zz_dM (zz_A ca zz_dM a I L sz) a P) 0 0 (zz_A ca zz_dM a I L sz) :=
  zz_start (by decide) (Nat.le_of_ble_eq_true rfl) (fun p e s m below meth c X hsz hA => zq_X8_weighSets X hA  h)
def zp_X8_ones_4b (K4 : Int32 → Int32 → Prop) (P : Int32 → Prop) (x0 : Int32) (x1 : Int32) (x2 : Int32) (I : zz_I) (L : zz_L) : Prop := ((8 : Int32) ≤ x2 → P x1) ∧ (¬ (8 : Int32) ≤ x2 → ∀ v17 : Int32, v17 = x1 + ((x0 >>> (x2 &&& 31)) &&& (1 : Int32)) → (∀ v18 : Int32, v18 = x2 + (1 : Int32) → (K4 v17 v18)))
set_option maxHeartbeats 4000000 in
set_option maxRecDepth 100000 in
theorem zq_X8_ones_4b {p : Program} {l : Launch} {e : Env} {s : State} {m : MethodId} {args : Array Value} {below : List Frame} {meth : Method} {c : Code} {D : va_G} {ca : Nat → ClassId} {A : Nat → Prop} {a : Nat → Nat} {K4 : Int32 → Int32 → Prop} {P : Int32 → Prop} {I : zz_I} {L : zz_L} {x0 : Int32} {x1 : Int32} {x2 : Int32} (X : zz_X p s m meth c cX8_ones RX8 (some .int) 3) (hA : ∀ q, s.heap.size ≤ q → A q)  (hK4 : ∀ (y1 : Int32) (y2 : Int32), K4 y1 y2 → zz_Go p l e ({ frames := 0, cells := 0, slots := 0, locals := 0 } : Room) s m args below meth c 0 0 (MQ below (zz_Qi D ca zz_dM A a (fun r I9 L9 => P r ∧ I9 = I ∧ L9 = L)) args s 0 0 A) D ca zz_dM A 3 4 a [] [(0, .int x0), (1, .int y1), (2, .int y2)] I L) (h : zp_X8_ones_4b K4 P x0 x1 x2 I L) : zz_Go p l e ({ frames := 0, cells := 0, slots := 0, locals := 0 } : Room) s m args below meth c 0 0 (MQ below (zz_Qi D ca zz_dM A a (fun r I9 L9 => P r ∧ I9 = I ∧ L9 = L)) args s 0 0 A) D ca zz_dM A 3 4 a [] [(0, .int x0), (1, .int x1), (2, .int x2)] I L := by
  obtain ⟨hx, hb, hml, hown, zw, hr, hlocks⟩ := id X
  intro H locs ls hB hl
  unfold zp_X8_ones_4b at h
  refine lv_iload_n hx hb dX8_ones_4 rfl (lv_at hl 2 rfl) ?_
  refine lv_bipush (v := (8 : Int32)) hx hb dX8_ones_5 (by decide) ?_
  refine lv_icmp_ge (tgt := 24) hx hb dX8_ones_7 (by decide) (fun c7 => ?_) (fun c7 => ?_)
  · have h := h.1 c7
    refine lv_iload_n hx hb dX8_ones_24 rfl (lv_at hl 1 rfl) ?_
    exact zz_iret hx hb hr hlocks hB ⟨h, rfl, rfl⟩ dX8_ones_25
  · have h := h.2 c7
    refine lv_iload_n hx hb dX8_ones_10 rfl (lv_at hl 1 rfl) ?_
    refine lv_iload_n hx hb dX8_ones_11 rfl (lv_at hl 0 rfl) ?_
    refine lv_iload_n hx hb dX8_ones_12 rfl (lv_at hl 2 rfl) ?_
    refine lv_ishr hx hb dX8_ones_13 ?_
    refine lv_iconst (v := (1 : Int32)) hx hb dX8_ones_14 (by decide) ?_
    refine lv_iand hx hb dX8_ones_15 ?_
    refine lv_iadd hx hb dX8_ones_16 ?_
    refine lv_topi (fun v17 ev17 => ?_)
    have h := h v17 ev17
    refine lv_istore_n (lv' := [(1, .int v17), (0, .int x0), (2, .int x2)]) hx hb dX8_ones_17 rfl hl (by decide) rfl (fun ls hl => ?_)
    obtain ⟨v18, ev18⟩ : ∃ z : Int32, z = x2 + (1 : Int32) := ⟨_, rfl⟩
    have h := h v18 ev18
    refine lv_iinc (v := v18) (lv' := [(2, .int v18), (1, .int v17), (0, .int x0)]) hx hb dX8_ones_18 hl (k := 2) rfl (by rw [ev18]; rfl) (by decide) rfl (fun ls hl => ?_)
    refine lv_goto (tgt := 4) hx hb dX8_ones_21 (by decide) ?_
    exact hK4 _ _ h H locs ls hB (lv_sub hl [2, 1, 0] rfl)
def zp_X8_ones_4  (P : Int32 → Prop) (x0 : Int32) (x1 : Int32) (x2 : Int32) (I : zz_I) (L : zz_L) : Prop := ∃ (Inv : Int32 → Int32 → Prop) (μ : Int32 → Int32 → Nat), Inv x1 x2 ∧ ∀ (y1 : Int32) (y2 : Int32), Inv y1 y2 → zp_X8_ones_4b  (fun z1 z2 => Inv z1 z2 ∧ μ z1 z2 < μ y1 y2) P x0 y1 y2 I L
set_option maxHeartbeats 4000000 in
set_option maxRecDepth 100000 in
theorem zq_X8_ones_4 {p : Program} {l : Launch} {e : Env} {s : State} {m : MethodId} {args : Array Value} {below : List Frame} {meth : Method} {c : Code} {D : va_G} {ca : Nat → ClassId} {A : Nat → Prop} {a : Nat → Nat}  {P : Int32 → Prop} {I : zz_I} {L : zz_L} {x0 : Int32} {x1 : Int32} {x2 : Int32} (X : zz_X p s m meth c cX8_ones RX8 (some .int) 3) (hA : ∀ q, s.heap.size ≤ q → A q)   (h : zp_X8_ones_4  P x0 x1 x2 I L) : zz_Go p l e ({ frames := 0, cells := 0, slots := 0, locals := 0 } : Room) s m args below meth c 0 0 (MQ below (zz_Qi D ca zz_dM A a (fun r I9 L9 => P r ∧ I9 = I ∧ L9 = L)) args s 0 0 A) D ca zz_dM A 3 4 a [] [(0, .int x0), (1, .int x1), (2, .int x2)] I L := by
  unfold zp_X8_ones_4 at h
  obtain ⟨Inv, μ, hv0, hs⟩ := h
  have key : ∀ (n9 : Nat) (y1 : Int32) (y2 : Int32), μ y1 y2 < n9 → Inv y1 y2 → zz_Go p l e ({ frames := 0, cells := 0, slots := 0, locals := 0 } : Room) s m args below meth c 0 0 (MQ below (zz_Qi D ca zz_dM A a (fun r I9 L9 => P r ∧ I9 = I ∧ L9 = L)) args s 0 0 A) D ca zz_dM A 3 4 a [] [(0, .int x0), (1, .int y1), (2, .int y2)] I L := by
    intro n9
    induction n9 with
    | zero => intro y1 y2 hn; exact absurd hn (Nat.not_lt_zero _)
    | succ n9 ih =>
      intro y1 y2 hn hi
      exact zq_X8_ones_4b (K4 := (fun z1 z2 => Inv z1 z2 ∧ μ z1 z2 < μ y1 y2)) X hA   (fun z1 z2 hz => ih z1 z2 (Nat.lt_of_lt_of_le hz.2 (Nat.le_of_lt_succ hn)) hz.1) (hs y1 y2 hi)
  exact key _ x1 x2 (Nat.lt_succ_self _) hv0
def zp_X8_ones (x0 : Int32) (P : Int32 → Prop) (I : zz_I) (L : zz_L) : Prop := zp_X8_ones_4 P x0 (0 : Int32) (0 : Int32) I L
set_option maxHeartbeats 4000000 in
set_option maxRecDepth 100000 in
theorem zq_X8_ones {p : Program} {l : Launch} {e : Env} {s : State} {m : MethodId} {args : Array Value} {below : List Frame} {meth : Method} {c : Code} {D : va_G} {ca : Nat → ClassId} {A : Nat → Prop} {a : Nat → Nat}  {P : Int32 → Prop} {I : zz_I} {L : zz_L} {x0 : Int32} (X : zz_X p s m meth c cX8_ones RX8 (some .int) 3) (hA : ∀ q, s.heap.size ≤ q → A q)   (h : zp_X8_ones x0 P I L) : zz_Go p l e ({ frames := 0, cells := 0, slots := 0, locals := 0 } : Room) s m args below meth c 0 0 (MQ below (zz_Qi D ca zz_dM A a (fun r I9 L9 => P r ∧ I9 = I ∧ L9 = L)) args s 0 0 A) D ca zz_dM A 3 0 a [] [(0, .int x0)] I L := by
  obtain ⟨hx, hb, hml, hown, zw, hr, hlocks⟩ := id X
  intro H locs ls hB hl
  unfold zp_X8_ones at h
  refine lv_iconst (v := (0 : Int32)) hx hb dX8_ones_0 (by decide) ?_
  refine lv_istore_n (lv' := [(1, .int (0 : Int32)), (0, .int x0)]) hx hb dX8_ones_1 rfl hl (by decide) rfl (fun ls hl => ?_)
  refine lv_iconst (v := (0 : Int32)) hx hb dX8_ones_2 (by decide) ?_
  refine lv_istore_n (lv' := [(2, .int (0 : Int32)), (1, .int (0 : Int32)), (0, .int x0)]) hx hb dX8_ones_3 rfl hl (by decide) rfl (fun ls hl => ?_)
  exact zq_X8_ones_4 X hA  h H locs ls hB (lv_sub hl [2, 1, 0] rfl)
theorem zc_X8_ones (l : Launch) (D : va_G) (ca : Nat → ClassId) (a : Nat → Nat) (I : zz_I) (L : zz_L) (sz : Nat) {x0 : Int32} {P : Int32 → Prop}  (h : zp_X8_ones x0 P I L) : Met l yX8_ones [.code yX8_ones cX8_ones 3 (some .int)] ({ frames := 0, cells := 0, slots := 0, locals := 0 } : Room) (zz_Pre D ca zz_dM [.int x0] a I L sz) (zz_Qi D ca zz_dM (zz_A ca zz_dM a I L sz) a (fun r I9 L9 => P r ∧ I9 = I ∧ L9 = L)) 0 0 (zz_A ca zz_dM a I L sz) :=
  zz_start (by decide) (Nat.le_of_ble_eq_true rfl) (fun p e s m below meth c X hsz hA => zq_X8_ones X hA  h)
def zp_X8_power_4b (K4 : Int32 → Int32 → Prop) (P : Int32 → Prop) (x0 : Int32) (x1 : Int32) (x2 : Int32) (x3 : Int32) (I : zz_I) (L : zz_L) : Prop := (x1 ≤ x3 → P x2) ∧ (¬ x1 ≤ x3 → ∀ v12 : Int32, v12 = x2 * x0 → (∀ v13 : Int32, v13 = x3 + (1 : Int32) → (K4 v12 v13)))
set_option maxHeartbeats 4000000 in
set_option maxRecDepth 100000 in
theorem zq_X8_power_4b {p : Program} {l : Launch} {e : Env} {s : State} {m : MethodId} {args : Array Value} {below : List Frame} {meth : Method} {c : Code} {D : va_G} {ca : Nat → ClassId} {A : Nat → Prop} {a : Nat → Nat} {K4 : Int32 → Int32 → Prop} {P : Int32 → Prop} {I : zz_I} {L : zz_L} {x0 : Int32} {x1 : Int32} {x2 : Int32} {x3 : Int32} (X : zz_X p s m meth c cX8_power RX8 (some .int) 4) (hA : ∀ q, s.heap.size ≤ q → A q)  (hK4 : ∀ (y2 : Int32) (y3 : Int32), K4 y2 y3 → zz_Go p l e ({ frames := 0, cells := 0, slots := 0, locals := 0 } : Room) s m args below meth c 0 0 (MQ below (zz_Qi D ca zz_dM A a (fun r I9 L9 => P r ∧ I9 = I ∧ L9 = L)) args s 0 0 A) D ca zz_dM A 4 4 a [] [(0, .int x0), (1, .int x1), (2, .int y2), (3, .int y3)] I L) (h : zp_X8_power_4b K4 P x0 x1 x2 x3 I L) : zz_Go p l e ({ frames := 0, cells := 0, slots := 0, locals := 0 } : Room) s m args below meth c 0 0 (MQ below (zz_Qi D ca zz_dM A a (fun r I9 L9 => P r ∧ I9 = I ∧ L9 = L)) args s 0 0 A) D ca zz_dM A 4 4 a [] [(0, .int x0), (1, .int x1), (2, .int x2), (3, .int x3)] I L := by
  obtain ⟨hx, hb, hml, hown, zw, hr, hlocks⟩ := id X
  intro H locs ls hB hl
  unfold zp_X8_power_4b at h
  refine lv_iload_n hx hb dX8_power_4 rfl (lv_at hl 3 rfl) ?_
  refine lv_iload_n hx hb dX8_power_5 rfl (lv_at hl 1 rfl) ?_
  refine lv_icmp_ge (tgt := 19) hx hb dX8_power_6 (by decide) (fun c6 => ?_) (fun c6 => ?_)
  · have h := h.1 c6
    refine lv_iload_n hx hb dX8_power_19 rfl (lv_at hl 2 rfl) ?_
    exact zz_iret hx hb hr hlocks hB ⟨h, rfl, rfl⟩ dX8_power_20
  · have h := h.2 c6
    refine lv_iload_n hx hb dX8_power_9 rfl (lv_at hl 2 rfl) ?_
    refine lv_iload_n hx hb dX8_power_10 rfl (lv_at hl 0 rfl) ?_
    refine lv_imul hx hb dX8_power_11 ?_
    refine lv_topi (fun v12 ev12 => ?_)
    have h := h v12 ev12
    refine lv_istore_n (lv' := [(2, .int v12), (0, .int x0), (1, .int x1), (3, .int x3)]) hx hb dX8_power_12 rfl hl (by decide) rfl (fun ls hl => ?_)
    obtain ⟨v13, ev13⟩ : ∃ z : Int32, z = x3 + (1 : Int32) := ⟨_, rfl⟩
    have h := h v13 ev13
    refine lv_iinc (v := v13) (lv' := [(3, .int v13), (2, .int v12), (0, .int x0), (1, .int x1)]) hx hb dX8_power_13 hl (k := 3) rfl (by rw [ev13]; rfl) (by decide) rfl (fun ls hl => ?_)
    refine lv_goto (tgt := 4) hx hb dX8_power_16 (by decide) ?_
    exact hK4 _ _ h H locs ls hB (lv_sub hl [2, 3, 1, 0] rfl)
def zp_X8_power_4  (P : Int32 → Prop) (x0 : Int32) (x1 : Int32) (x2 : Int32) (x3 : Int32) (I : zz_I) (L : zz_L) : Prop := ∃ (Inv : Int32 → Int32 → Prop) (μ : Int32 → Int32 → Nat), Inv x2 x3 ∧ ∀ (y2 : Int32) (y3 : Int32), Inv y2 y3 → zp_X8_power_4b  (fun z2 z3 => Inv z2 z3 ∧ μ z2 z3 < μ y2 y3) P x0 x1 y2 y3 I L
set_option maxHeartbeats 4000000 in
set_option maxRecDepth 100000 in
theorem zq_X8_power_4 {p : Program} {l : Launch} {e : Env} {s : State} {m : MethodId} {args : Array Value} {below : List Frame} {meth : Method} {c : Code} {D : va_G} {ca : Nat → ClassId} {A : Nat → Prop} {a : Nat → Nat}  {P : Int32 → Prop} {I : zz_I} {L : zz_L} {x0 : Int32} {x1 : Int32} {x2 : Int32} {x3 : Int32} (X : zz_X p s m meth c cX8_power RX8 (some .int) 4) (hA : ∀ q, s.heap.size ≤ q → A q)   (h : zp_X8_power_4  P x0 x1 x2 x3 I L) : zz_Go p l e ({ frames := 0, cells := 0, slots := 0, locals := 0 } : Room) s m args below meth c 0 0 (MQ below (zz_Qi D ca zz_dM A a (fun r I9 L9 => P r ∧ I9 = I ∧ L9 = L)) args s 0 0 A) D ca zz_dM A 4 4 a [] [(0, .int x0), (1, .int x1), (2, .int x2), (3, .int x3)] I L := by
  unfold zp_X8_power_4 at h
  obtain ⟨Inv, μ, hv0, hs⟩ := h
  have key : ∀ (n9 : Nat) (y2 : Int32) (y3 : Int32), μ y2 y3 < n9 → Inv y2 y3 → zz_Go p l e ({ frames := 0, cells := 0, slots := 0, locals := 0 } : Room) s m args below meth c 0 0 (MQ below (zz_Qi D ca zz_dM A a (fun r I9 L9 => P r ∧ I9 = I ∧ L9 = L)) args s 0 0 A) D ca zz_dM A 4 4 a [] [(0, .int x0), (1, .int x1), (2, .int y2), (3, .int y3)] I L := by
    intro n9
    induction n9 with
    | zero => intro y2 y3 hn; exact absurd hn (Nat.not_lt_zero _)
    | succ n9 ih =>
      intro y2 y3 hn hi
      exact zq_X8_power_4b (K4 := (fun z2 z3 => Inv z2 z3 ∧ μ z2 z3 < μ y2 y3)) X hA   (fun z2 z3 hz => ih z2 z3 (Nat.lt_of_lt_of_le hz.2 (Nat.le_of_lt_succ hn)) hz.1) (hs y2 y3 hi)
  exact key _ x2 x3 (Nat.lt_succ_self _) hv0
def zp_X8_power (x0 : Int32) (x1 : Int32) (P : Int32 → Prop) (I : zz_I) (L : zz_L) : Prop := zp_X8_power_4 P x0 x1 (1 : Int32) (0 : Int32) I L
set_option maxHeartbeats 4000000 in
set_option maxRecDepth 100000 in
theorem zq_X8_power {p : Program} {l : Launch} {e : Env} {s : State} {m : MethodId} {args : Array Value} {below : List Frame} {meth : Method} {c : Code} {D : va_G} {ca : Nat → ClassId} {A : Nat → Prop} {a : Nat → Nat}  {P : Int32 → Prop} {I : zz_I} {L : zz_L} {x0 : Int32} {x1 : Int32} (X : zz_X p s m meth c cX8_power RX8 (some .int) 4) (hA : ∀ q, s.heap.size ≤ q → A q)   (h : zp_X8_power x0 x1 P I L) : zz_Go p l e ({ frames := 0, cells := 0, slots := 0, locals := 0 } : Room) s m args below meth c 0 0 (MQ below (zz_Qi D ca zz_dM A a (fun r I9 L9 => P r ∧ I9 = I ∧ L9 = L)) args s 0 0 A) D ca zz_dM A 4 0 a [] [(0, .int x0), (1, .int x1)] I L := by
  obtain ⟨hx, hb, hml, hown, zw, hr, hlocks⟩ := id X
  intro H locs ls hB hl
  unfold zp_X8_power at h
  refine lv_iconst (v := (1 : Int32)) hx hb dX8_power_0 (by decide) ?_
  refine lv_istore_n (lv' := [(2, .int (1 : Int32)), (0, .int x0), (1, .int x1)]) hx hb dX8_power_1 rfl hl (by decide) rfl (fun ls hl => ?_)
  refine lv_iconst (v := (0 : Int32)) hx hb dX8_power_2 (by decide) ?_
  refine lv_istore_n (lv' := [(3, .int (0 : Int32)), (2, .int (1 : Int32)), (0, .int x0), (1, .int x1)]) hx hb dX8_power_3 rfl hl (by decide) rfl (fun ls hl => ?_)
  exact zq_X8_power_4 X hA  h H locs ls hB (lv_sub hl [2, 3, 1, 0] rfl)
theorem zc_X8_power (l : Launch) (D : va_G) (ca : Nat → ClassId) (a : Nat → Nat) (I : zz_I) (L : zz_L) (sz : Nat) {x0 : Int32} {x1 : Int32} {P : Int32 → Prop}  (h : zp_X8_power x0 x1 P I L) : Met l yX8_power [.code yX8_power cX8_power 4 (some .int)] ({ frames := 0, cells := 0, slots := 0, locals := 0 } : Room) (zz_Pre D ca zz_dM [.int x0, .int x1] a I L sz) (zz_Qi D ca zz_dM (zz_A ca zz_dM a I L sz) a (fun r I9 L9 => P r ∧ I9 = I ∧ L9 = L)) 0 0 (zz_A ca zz_dM a I L sz) :=
  zz_start (by decide) (Nat.le_of_ble_eq_true rfl) (fun p e s m below meth c X hsz hA => zq_X8_power X hA  h)
def zp_X8_lost_29b (K29 : Int64 → Int32 → Prop) (P : Int32 → zz_I → zz_L → Prop) (x1 : Int32) (x2 : Int32) (x3 : Int64) (x5 : Int32) (I : zz_I) (L : zz_L) : Prop := (((1 : Int32) <<< ((I 0 5) &&& 31)) ≤ x5 → zp_X8_power (10 : Int32) (I 0 5) (fun r101 => zp_X8_fraction x3 (r101.toInt64) x2 (fun r106 => P (r106.toInt32) I L) I L) I L) ∧ (¬ ((1 : Int32) <<< ((I 0 5) &&& 31)) ≤ x5 → zp_X8_ones x5 (fun r42 => vp_in x5 256 ∧ (((L 26 x5.toNatClampNeg) ≤ (0 : Int64) → ∀ v87 : Int64, v87 = x3 + (0 : Int64) → (∀ v88 : Int32, v88 = x5 + (1 : Int32) → (K29 v87 v88))) ∧ (¬ (L 26 x5.toNatClampNeg) ≤ (0 : Int64) → zp_X8_power ((10 : Int32) - x1) r42 (fun r66 => zp_X8_power x1 ((I 0 5) - r42) (fun r77 => ∀ v87 : Int64, v87 = x3 + ((r66 * r77).toInt64) → (∀ v88 : Int32, v88 = x5 + (1 : Int32) → (K29 v87 v88))) I L) I L))) I L)
set_option maxHeartbeats 4000000 in
set_option maxRecDepth 100000 in
theorem zq_X8_lost_29b {p : Program} {l : Launch} {e : Env} {s : State} {m : MethodId} {args : Array Value} {below : List Frame} {meth : Method} {c : Code} {D : va_G} {ca : Nat → ClassId} {A : Nat → Prop} {a : Nat → Nat} {K29 : Int64 → Int32 → Prop} {P : Int32 → zz_I → zz_L → Prop} {I : zz_I} {L : zz_L} {x1 : Int32} {x2 : Int32} {x3 : Int64} {x5 : Int32} (X : zz_X p s m meth c cX8_lost RX8 (some .int) 7) (hA : ∀ q, s.heap.size ≤ q → A q)  (hK29 : ∀ (y3 : Int64) (y5 : Int32), K29 y3 y5 → zz_Go p l e ({ frames := 7, cells := 0, slots := 0, locals := 169 } : Room) s m args below meth c 0 0 (MQ below (zz_Qi D ca zz_dM A a P) args s 0 0 A) D ca zz_dM A 7 29 a [] [(0, .ref (a 0)), (1, .int x1), (2, .int x2), (3, .long y3), (5, .int y5)] I L) (h : zp_X8_lost_29b K29 P x1 x2 x3 x5 I L) : zz_Go p l e ({ frames := 7, cells := 0, slots := 0, locals := 169 } : Room) s m args below meth c 0 0 (MQ below (zz_Qi D ca zz_dM A a P) args s 0 0 A) D ca zz_dM A 7 29 a [] [(0, .ref (a 0)), (1, .int x1), (2, .int x2), (3, .long x3), (5, .int x5)] I L := by
  obtain ⟨hx, hb, hml, hown, zw, hr, hlocks⟩ := id X
  intro H locs ls hB hl
  unfold zp_X8_lost_29b at h
  refine lv_iload hx hb dX8_lost_29 (lv_at hl 4 rfl) ?_
  refine lv_iconst (v := (1 : Int32)) hx hb dX8_lost_31 (by decide) ?_
  refine lv_aload_n hx hb dX8_lost_32 rfl (lv_at hl 0 rfl) ?_
  refine zz_geti hx hb hown zw hB zF_X8_98 zdM_0 rfl dX8_lost_33 ?_
  refine lv_ishl hx hb dX8_lost_36 ?_
  refine lv_icmp_ge (tgt := 94) hx hb dX8_lost_37 (by decide) (fun c37 => ?_) (fun c37 => ?_)
  · have h := h.1 c37
    refine lv_lload_n hx hb dX8_lost_94 rfl (lv_at hl 3 rfl) ?_
    refine lv_bipush (v := (10 : Int32)) hx hb dX8_lost_95 (by decide) ?_
    refine lv_aload_n hx hb dX8_lost_97 rfl (lv_at hl 0 rfl) ?_
    refine zz_geti hx hb hown zw hB zF_X8_98 zdM_0 rfl dX8_lost_98 ?_
    refine zz_goip hB hA (zz_runS (As := [.int (10 : Int32), .int (I 0 5)]) (rest := [.long x3]) hx hb hml hown zw hB zM_X8_297 (zc_X8_power l D ca a I L H.size h) rfl hl.1 rfl (Nat.le_of_ble_eq_true rfl) rfl rfl ⟨Nat.le_of_ble_eq_true rfl, Nat.le_of_ble_eq_true rfl⟩ dX8_lost_101 ⟨Nat.le_of_ble_eq_true rfl, Nat.le_of_ble_eq_true rfl⟩) (fun r101 H locs h hB => ?_)
    refine lv_i2l (v := r101.toInt64) hx hb dX8_lost_104 rfl ?_
    refine lv_iload_n hx hb dX8_lost_105 rfl (lv_at hl 2 rfl) ?_
    refine zz_golp hB hA (zz_runS (As := [.long x3, .long (r101.toInt64), .int x2]) (rest := []) hx hb hml hown zw hB zM_X8_291 (zc_X8_fraction l D ca a I L H.size h) rfl hl.1 rfl (Nat.le_of_ble_eq_true rfl) rfl rfl ⟨Nat.le_of_ble_eq_true rfl, Nat.le_of_ble_eq_true rfl⟩ dX8_lost_106 ⟨Nat.le_of_ble_eq_true rfl, Nat.le_of_ble_eq_true rfl⟩) (fun r106 H locs h hB => ?_)
    refine lv_l2i (v := r106.toInt32) hx hb dX8_lost_109 rfl ?_
    exact zz_iret hx hb hr hlocks hB h dX8_lost_110
  · have h := h.2 c37
    refine lv_iload hx hb dX8_lost_40 (lv_at hl 4 rfl) ?_
    refine zz_goip hB hA (zz_runS (As := [.int x5]) (rest := []) hx hb hml hown zw hB zM_X8_284 (zc_X8_ones l D ca a I L H.size h) rfl hl.1 rfl (Nat.le_of_ble_eq_true rfl) rfl rfl ⟨Nat.le_of_ble_eq_true rfl, Nat.le_of_ble_eq_true rfl⟩ dX8_lost_42 ⟨Nat.le_of_ble_eq_true rfl, Nat.le_of_ble_eq_true rfl⟩) (fun r42 H locs h hB => ?_)
    refine lv_istore (lv' := [(6, .int r42), (0, .ref (a 0)), (1, .int x1), (2, .int x2), (3, .long x3), (5, .int x5)]) hx hb dX8_lost_45 hl (by decide) rfl (fun ls hl => ?_)
    refine lv_lload_n hx hb dX8_lost_47 rfl (lv_at hl 4 rfl) ?_
    refine lv_aload_n hx hb dX8_lost_48 rfl (lv_at hl 1 rfl) ?_
    refine zz_getr (k' := 26) hx hb hown zw hB zF_X8_87 zdM_0 rfl rfl dX8_lost_49 ?_
    refine lv_iload hx hb dX8_lost_52 (lv_at hl 5 rfl) ?_
    obtain ⟨hi54, h⟩ := h
    refine zz_lald hx hb hB zdM_26 hi54 dX8_lost_54 ?_
    refine lv_lconst (v := (0 : Int64)) hx hb dX8_lost_55 (by decide) ?_
    refine zz_l_le (tgt := 85) hx hb dX8_lost_56 dX8_lost_57 (by decide) (fun c56 => ?_) (fun c56 => ?_)
    · have h := h.1 c56
      refine lv_lconst (v := (0 : Int64)) hx hb dX8_lost_85 (by decide) ?_
      refine lv_ladd hx hb dX8_lost_86 ?_
      refine lv_topl (fun v87 ev87 => ?_)
      have h := h v87 ev87
      refine lv_lstore_n (lv' := [(3, .long v87), (6, .int r42), (0, .ref (a 0)), (1, .int x1), (2, .int x2), (5, .int x5)]) hx hb dX8_lost_87 rfl hl (by decide) rfl (fun ls hl => ?_)
      obtain ⟨v88, ev88⟩ : ∃ z : Int32, z = x5 + (1 : Int32) := ⟨_, rfl⟩
      have h := h v88 ev88
      refine lv_iinc (v := v88) (lv' := [(5, .int v88), (3, .long v87), (6, .int r42), (0, .ref (a 0)), (1, .int x1), (2, .int x2)]) hx hb dX8_lost_88 hl (k := 5) rfl (by rw [ev88]; rfl) (by decide) rfl (fun ls hl => ?_)
      refine lv_goto (tgt := 29) hx hb dX8_lost_91 (by decide) ?_
      exact hK29 _ _ h H locs ls hB (lv_sub hl [3, 4, 5, 1, 0] rfl)
    · have h := h.2 c56
      refine lv_bipush (v := (10 : Int32)) hx hb dX8_lost_60 (by decide) ?_
      refine lv_iload_n hx hb dX8_lost_62 rfl (lv_at hl 2 rfl) ?_
      refine lv_isub hx hb dX8_lost_63 ?_
      refine lv_iload hx hb dX8_lost_64 (lv_at hl 0 rfl) ?_
      refine zz_goip hB hA (zz_runS (As := [.int ((10 : Int32) - x1), .int r42]) (rest := [.long x3]) hx hb hml hown zw hB zM_X8_297 (zc_X8_power l D ca a I L H.size h) rfl hl.1 rfl (Nat.le_of_ble_eq_true rfl) rfl rfl ⟨Nat.le_of_ble_eq_true rfl, Nat.le_of_ble_eq_true rfl⟩ dX8_lost_66 ⟨Nat.le_of_ble_eq_true rfl, Nat.le_of_ble_eq_true rfl⟩) (fun r66 H locs h hB => ?_)
      refine lv_iload_n hx hb dX8_lost_69 rfl (lv_at hl 2 rfl) ?_
      refine lv_aload_n hx hb dX8_lost_70 rfl (lv_at hl 1 rfl) ?_
      refine zz_geti hx hb hown zw hB zF_X8_98 zdM_0 rfl dX8_lost_71 ?_
      refine lv_iload hx hb dX8_lost_74 (lv_at hl 0 rfl) ?_
      refine lv_isub hx hb dX8_lost_76 ?_
      refine zz_goip hB hA (zz_runS (As := [.int x1, .int ((I 0 5) - r42)]) (rest := [.int r66, .long x3]) hx hb hml hown zw hB zM_X8_297 (zc_X8_power l D ca a I L H.size h) rfl hl.1 rfl (Nat.le_of_ble_eq_true rfl) rfl rfl ⟨Nat.le_of_ble_eq_true rfl, Nat.le_of_ble_eq_true rfl⟩ dX8_lost_77 ⟨Nat.le_of_ble_eq_true rfl, Nat.le_of_ble_eq_true rfl⟩) (fun r77 H locs h hB => ?_)
      refine lv_imul hx hb dX8_lost_80 ?_
      refine lv_i2l (v := (r66 * r77).toInt64) hx hb dX8_lost_81 rfl ?_
      refine lv_goto (tgt := 86) hx hb dX8_lost_82 (by decide) ?_
      refine lv_ladd hx hb dX8_lost_86 ?_
      refine lv_topl (fun v87 ev87 => ?_)
      have h := h v87 ev87
      refine lv_lstore_n (lv' := [(3, .long v87), (6, .int r42), (0, .ref (a 0)), (1, .int x1), (2, .int x2), (5, .int x5)]) hx hb dX8_lost_87 rfl hl (by decide) rfl (fun ls hl => ?_)
      obtain ⟨v88, ev88⟩ : ∃ z : Int32, z = x5 + (1 : Int32) := ⟨_, rfl⟩
      have h := h v88 ev88
      refine lv_iinc (v := v88) (lv' := [(5, .int v88), (3, .long v87), (6, .int r42), (0, .ref (a 0)), (1, .int x1), (2, .int x2)]) hx hb dX8_lost_88 hl (k := 5) rfl (by rw [ev88]; rfl) (by decide) rfl (fun ls hl => ?_)
      refine lv_goto (tgt := 29) hx hb dX8_lost_91 (by decide) ?_
      exact hK29 _ _ h H locs ls hB (lv_sub hl [3, 4, 5, 1, 0] rfl)
def zp_X8_lost_29  (P : Int32 → zz_I → zz_L → Prop) (x1 : Int32) (x2 : Int32) (x3 : Int64) (x5 : Int32) (I : zz_I) (L : zz_L) : Prop := ∃ (Inv : Int64 → Int32 → Prop) (μ : Int64 → Int32 → Nat), Inv x3 x5 ∧ ∀ (y3 : Int64) (y5 : Int32), Inv y3 y5 → zp_X8_lost_29b  (fun z3 z5 => Inv z3 z5 ∧ μ z3 z5 < μ y3 y5) P x1 x2 y3 y5 I L
set_option maxHeartbeats 4000000 in
set_option maxRecDepth 100000 in
theorem zq_X8_lost_29 {p : Program} {l : Launch} {e : Env} {s : State} {m : MethodId} {args : Array Value} {below : List Frame} {meth : Method} {c : Code} {D : va_G} {ca : Nat → ClassId} {A : Nat → Prop} {a : Nat → Nat}  {P : Int32 → zz_I → zz_L → Prop} {I : zz_I} {L : zz_L} {x1 : Int32} {x2 : Int32} {x3 : Int64} {x5 : Int32} (X : zz_X p s m meth c cX8_lost RX8 (some .int) 7) (hA : ∀ q, s.heap.size ≤ q → A q)   (h : zp_X8_lost_29  P x1 x2 x3 x5 I L) : zz_Go p l e ({ frames := 7, cells := 0, slots := 0, locals := 169 } : Room) s m args below meth c 0 0 (MQ below (zz_Qi D ca zz_dM A a P) args s 0 0 A) D ca zz_dM A 7 29 a [] [(0, .ref (a 0)), (1, .int x1), (2, .int x2), (3, .long x3), (5, .int x5)] I L := by
  unfold zp_X8_lost_29 at h
  obtain ⟨Inv, μ, hv0, hs⟩ := h
  have key : ∀ (n9 : Nat) (y3 : Int64) (y5 : Int32), μ y3 y5 < n9 → Inv y3 y5 → zz_Go p l e ({ frames := 7, cells := 0, slots := 0, locals := 169 } : Room) s m args below meth c 0 0 (MQ below (zz_Qi D ca zz_dM A a P) args s 0 0 A) D ca zz_dM A 7 29 a [] [(0, .ref (a 0)), (1, .int x1), (2, .int x2), (3, .long y3), (5, .int y5)] I L := by
    intro n9
    induction n9 with
    | zero => intro y3 y5 hn; exact absurd hn (Nat.not_lt_zero _)
    | succ n9 ih =>
      intro y3 y5 hn hi
      exact zq_X8_lost_29b (K29 := (fun z3 z5 => Inv z3 z5 ∧ μ z3 z5 < μ y3 y5)) X hA   (fun z3 z5 hz => ih z3 z5 (Nat.lt_of_lt_of_le hz.2 (Nat.le_of_lt_succ hn)) hz.1) (hs y3 y5 hi)
  exact key _ x3 x5 (Nat.lt_succ_self _) hv0
def zp_X8_lost (x1 : Int32) (x2 : Int32) (P : Int32 → zz_I → zz_L → Prop) (I : zz_I) (L : zz_L) : Prop := ∀ I2 : zz_I, I2 = zz_up I 0 0 (0 : Int32) → (zp_X8_in (x1.toInt64) (0 : Int64) (10 : Int64) (fun r11 => (¬ r11 = 0 → zp_X8_weighSets  (fun I21 L21 => zp_X8_lost_29 P x1 x2 (0 : Int64) (0 : Int32) I21 L21) I2 L) ∧ (r11 = 0 → P (-2 : Int32) I2 L)) I2 L)
set_option maxHeartbeats 4000000 in
set_option maxRecDepth 100000 in
theorem zq_X8_lost {p : Program} {l : Launch} {e : Env} {s : State} {m : MethodId} {args : Array Value} {below : List Frame} {meth : Method} {c : Code} {D : va_G} {ca : Nat → ClassId} {A : Nat → Prop} {a : Nat → Nat}  {P : Int32 → zz_I → zz_L → Prop} {I : zz_I} {L : zz_L} {x1 : Int32} {x2 : Int32} (X : zz_X p s m meth c cX8_lost RX8 (some .int) 7) (hA : ∀ q, s.heap.size ≤ q → A q)   (h : zp_X8_lost x1 x2 P I L) : zz_Go p l e ({ frames := 7, cells := 0, slots := 0, locals := 169 } : Room) s m args below meth c 0 0 (MQ below (zz_Qi D ca zz_dM A a P) args s 0 0 A) D ca zz_dM A 7 0 a [] [(0, .ref (a 0)), (1, .int x1), (2, .int x2)] I L := by
  obtain ⟨hx, hb, hml, hown, zw, hr, hlocks⟩ := id X
  intro H locs ls hB hl
  unfold zp_X8_lost at h
  refine lv_aload_n hx hb dX8_lost_0 rfl (lv_at hl 0 rfl) ?_
  refine lv_iconst (v := (0 : Int32)) hx hb dX8_lost_1 (by decide) ?_
  refine zz_puti hx hb hown zw hB zP_X8_94 zdM_0 rfl dX8_lost_2 (fun H locs hB => ?_)
  obtain ⟨I2, eI2⟩ : ∃ z : zz_I, z = zz_up I 0 0 (0 : Int32) := ⟨_, rfl⟩
  rw [← eI2] at hB
  have h := h I2 eI2
  refine lv_iload_n hx hb dX8_lost_5 rfl (lv_at hl 1 rfl) ?_
  refine lv_i2l (v := x1.toInt64) hx hb dX8_lost_6 rfl ?_
  refine lv_lconst (v := (0 : Int64)) hx hb dX8_lost_7 (by decide) ?_
  refine lv_ldc2 (v := (10 : Int64)) hx hb hown (zz_W_use zw zk_X8_295 rfl) dX8_lost_8 ?_
  refine zz_goip hB hA (zz_runS (As := [.long (x1.toInt64), .long (0 : Int64), .long (10 : Int64)]) (rest := []) hx hb hml hown zw hB zM_X8_101 (zc_X8_in l D ca a I2 L H.size h) rfl hl.1 rfl (Nat.le_of_ble_eq_true rfl) rfl rfl ⟨Nat.le_of_ble_eq_true rfl, Nat.le_of_ble_eq_true rfl⟩ dX8_lost_11 ⟨Nat.le_of_ble_eq_true rfl, Nat.le_of_ble_eq_true rfl⟩) (fun r11 H locs h hB => ?_)
  refine lv_if_ne (tgt := 20) hx hb dX8_lost_14 (by decide) (fun c14 => ?_) (fun c14 => ?_)
  · have h := h.1 c14
    refine lv_aload_n hx hb dX8_lost_20 rfl (lv_at hl 0 rfl) ?_
    refine zz_gov hB hA (zz_runV (As := []) (rest := []) hx hb hml hown zw hB zM_X8_281 (zc_X8_weighSets l D ca a I2 L H.size h) zdM_0 rfl rfl hl.1 rfl (Nat.le_of_ble_eq_true rfl) rfl rfl ⟨Nat.le_of_ble_eq_true rfl, Nat.le_of_ble_eq_true rfl⟩ dX8_lost_21 ⟨Nat.le_of_ble_eq_true rfl, Nat.le_of_ble_eq_true rfl⟩) (fun I21 L21 H locs h hB => ?_)
    refine lv_lconst (v := (0 : Int64)) hx hb dX8_lost_24 (by decide) ?_
    refine lv_lstore_n (lv' := [(3, .long (0 : Int64)), (0, .ref (a 0)), (1, .int x1), (2, .int x2)]) hx hb dX8_lost_25 rfl hl (by decide) rfl (fun ls hl => ?_)
    refine lv_iconst (v := (0 : Int32)) hx hb dX8_lost_26 (by decide) ?_
    refine lv_istore (lv' := [(5, .int (0 : Int32)), (3, .long (0 : Int64)), (0, .ref (a 0)), (1, .int x1), (2, .int x2)]) hx hb dX8_lost_27 hl (by decide) rfl (fun ls hl => ?_)
    exact zq_X8_lost_29 X hA  h H locs ls hB (lv_sub hl [2, 3, 4, 1, 0] rfl)
  · have h := h.2 c14
    refine lv_bipush (v := (-2 : Int32)) hx hb dX8_lost_17 (by decide) ?_
    exact zz_iret hx hb hr hlocks hB h dX8_lost_19
theorem zc_X8_lost (l : Launch) (D : va_G) (ca : Nat → ClassId) (a : Nat → Nat) (I : zz_I) (L : zz_L) (sz : Nat) {x1 : Int32} {x2 : Int32} {P : Int32 → zz_I → zz_L → Prop}  (h : zp_X8_lost x1 x2 P I L) : Met l yX8_lost [.code yX8_lost cX8_lost 7 (some .int)] ({ frames := 7, cells := 0, slots := 0, locals := 169 } : Room) (zz_Pre D ca zz_dM [.ref (a 0), .int x1, .int x2] a I L sz) (zz_Qi D ca zz_dM (zz_A ca zz_dM a I L sz) a P) 0 0 (zz_A ca zz_dM a I L sz) :=
  zz_start (by decide) (Nat.le_of_ble_eq_true rfl) (fun p e s m below meth c X hsz hA => zq_X8_lost X hA  h)
def zp_X8_rank (x1 : Int64) (x3 : Int32) (P : Int32 → zz_I → zz_L → Prop) (I : zz_I) (L : zz_L) : Prop := ∀ I2 : zz_I, I2 = zz_up I 0 0 (0 : Int32) → (((-2 : Int32) ≤ x3 → (x1 < (0 : Int64) → P (-9 : Int32) I2 L) ∧ (¬ x1 < (0 : Int64) → zp_X8_findRank 14 x1 (fun r26 I26 L26 => (¬ r26 = 0 → (¬ x3 = (-1 : Int32) → (¬ x3 = (-2 : Int32) → ((I26 0 33) ≤ x3 → P (-9 : Int32) I26 L26) ∧ (¬ (I26 0 33) ≤ x3 → vp_in x3 8 ∧ (P (I26 25 x3.toNatClampNeg) I26 L26))) ∧ (x3 = (-2 : Int32) → P (I26 0 33) I26 L26)) ∧ (x3 = (-1 : Int32) → P (I26 0 34) I26 L26)) ∧ (r26 = 0 → P (-9 : Int32) I26 L26)) I2 L)) ∧ (¬ (-2 : Int32) ≤ x3 → P (-2 : Int32) I2 L))
set_option maxHeartbeats 4000000 in
set_option maxRecDepth 100000 in
theorem zq_X8_rank {p : Program} {l : Launch} {e : Env} {s : State} {m : MethodId} {args : Array Value} {below : List Frame} {meth : Method} {c : Code} {D : va_G} {ca : Nat → ClassId} {A : Nat → Prop} {a : Nat → Nat}  {P : Int32 → zz_I → zz_L → Prop} {I : zz_I} {L : zz_L} {x1 : Int64} {x3 : Int32} (X : zz_X p s m meth c cX8_rank RX8 (some .int) 4) (hA : ∀ q, s.heap.size ≤ q → A q)   (h : zp_X8_rank x1 x3 P I L) : zz_Go p l e ({ frames := 6, cells := 0, slots := 0, locals := 161 } : Room) s m args below meth c 0 0 (MQ below (zz_Qi D ca zz_dM A a P) args s 0 0 A) D ca zz_dM A 4 0 a [] [(0, .ref (a 0)), (1, .long x1), (3, .int x3)] I L := by
  obtain ⟨hx, hb, hml, hown, zw, hr, hlocks⟩ := id X
  intro H locs ls hB hl
  unfold zp_X8_rank at h
  refine lv_aload_n hx hb dX8_rank_0 rfl (lv_at hl 0 rfl) ?_
  refine lv_iconst (v := (0 : Int32)) hx hb dX8_rank_1 (by decide) ?_
  refine zz_puti hx hb hown zw hB zP_X8_94 zdM_0 rfl dX8_rank_2 (fun H locs hB => ?_)
  obtain ⟨I2, eI2⟩ : ∃ z : zz_I, z = zz_up I 0 0 (0 : Int32) := ⟨_, rfl⟩
  rw [← eI2] at hB
  have h := h I2 eI2
  refine lv_iload_n hx hb dX8_rank_5 rfl (lv_at hl 2 rfl) ?_
  refine lv_bipush (v := (-2 : Int32)) hx hb dX8_rank_6 (by decide) ?_
  refine lv_icmp_ge (tgt := 14) hx hb dX8_rank_8 (by decide) (fun c8 => ?_) (fun c8 => ?_)
  · have h := h.1 c8
    refine lv_lload_n hx hb dX8_rank_14 rfl (lv_at hl 1 rfl) ?_
    refine lv_lconst (v := (0 : Int64)) hx hb dX8_rank_15 (by decide) ?_
    refine zz_l_lt (tgt := 32) hx hb dX8_rank_16 dX8_rank_17 (by decide) (fun c16 => ?_) (fun c16 => ?_)
    · have h := h.1 c16
      refine lv_bipush (v := (-9 : Int32)) hx hb dX8_rank_32 (by decide) ?_
      exact zz_iret hx hb hr hlocks hB h dX8_rank_34
    · have h := h.2 c16
      refine lv_aload_n hx hb dX8_rank_20 rfl (lv_at hl 0 rfl) ?_
      refine lv_aload_n hx hb dX8_rank_21 rfl (lv_at hl 0 rfl) ?_
      refine zz_getr (k' := 14) hx hb hown zw hB zF_X8_50 zdM_0 rfl rfl dX8_rank_22 ?_
      refine lv_lload_n hx hb dX8_rank_25 rfl (lv_at hl 1 rfl) ?_
      refine zz_goi hB hA (zz_runV (As := [.ref (a 14), .long x1]) (rest := []) hx hb hml hown zw hB zM_X8_235 (zc_X8_findRank l D ca a I2 L H.size zdM_14 h) zdM_0 rfl rfl hl.1 rfl (Nat.le_of_ble_eq_true rfl) rfl rfl ⟨Nat.le_of_ble_eq_true rfl, Nat.le_of_ble_eq_true rfl⟩ dX8_rank_26 ⟨Nat.le_of_ble_eq_true rfl, Nat.le_of_ble_eq_true rfl⟩) (fun r26 I26 L26 H locs h hB => ?_)
      refine lv_if_ne (tgt := 35) hx hb dX8_rank_29 (by decide) (fun c29 => ?_) (fun c29 => ?_)
      · have h := h.1 c29
        refine lv_iload_n hx hb dX8_rank_35 rfl (lv_at hl 2 rfl) ?_
        refine lv_iconst (v := (-1 : Int32)) hx hb dX8_rank_36 (by decide) ?_
        refine lv_icmp_ne (tgt := 47) hx hb dX8_rank_37 (by decide) (fun c37 => ?_) (fun c37 => ?_)
        · have h := h.1 c37
          refine lv_iload_n hx hb dX8_rank_47 rfl (lv_at hl 2 rfl) ?_
          refine lv_bipush (v := (-2 : Int32)) hx hb dX8_rank_48 (by decide) ?_
          refine lv_icmp_ne (tgt := 60) hx hb dX8_rank_50 (by decide) (fun c50 => ?_) (fun c50 => ?_)
          · have h := h.1 c50
            refine lv_iload_n hx hb dX8_rank_60 rfl (lv_at hl 2 rfl) ?_
            refine lv_aload_n hx hb dX8_rank_61 rfl (lv_at hl 0 rfl) ?_
            refine zz_geti hx hb hown zw hB zF_X8_213 zdM_0 rfl dX8_rank_62 ?_
            refine lv_icmp_ge (tgt := 77) hx hb dX8_rank_65 (by decide) (fun c65 => ?_) (fun c65 => ?_)
            · have h := h.1 c65
              refine lv_bipush (v := (-9 : Int32)) hx hb dX8_rank_77 (by decide) ?_
              exact zz_iret hx hb hr hlocks hB h dX8_rank_79
            · have h := h.2 c65
              refine lv_aload_n hx hb dX8_rank_68 rfl (lv_at hl 0 rfl) ?_
              refine zz_getr (k' := 25) hx hb hown zw hB zF_X8_84 zdM_0 rfl rfl dX8_rank_69 ?_
              refine lv_iload_n hx hb dX8_rank_72 rfl (lv_at hl 2 rfl) ?_
              obtain ⟨hi73, h⟩ := h
              refine zz_iald hx hb hB zdM_25 hi73 dX8_rank_73 ?_
              refine lv_goto (tgt := 79) hx hb dX8_rank_74 (by decide) ?_
              exact zz_iret hx hb hr hlocks hB h dX8_rank_79
          · have h := h.2 c50
            refine lv_aload_n hx hb dX8_rank_53 rfl (lv_at hl 0 rfl) ?_
            refine zz_geti hx hb hown zw hB zF_X8_213 zdM_0 rfl dX8_rank_54 ?_
            refine lv_goto (tgt := 79) hx hb dX8_rank_57 (by decide) ?_
            exact zz_iret hx hb hr hlocks hB h dX8_rank_79
        · have h := h.2 c37
          refine lv_aload_n hx hb dX8_rank_40 rfl (lv_at hl 0 rfl) ?_
          refine zz_geti hx hb hown zw hB zF_X8_216 zdM_0 rfl dX8_rank_41 ?_
          refine lv_goto (tgt := 79) hx hb dX8_rank_44 (by decide) ?_
          exact zz_iret hx hb hr hlocks hB h dX8_rank_79
      · have h := h.2 c29
        refine lv_bipush (v := (-9 : Int32)) hx hb dX8_rank_32 (by decide) ?_
        exact zz_iret hx hb hr hlocks hB h dX8_rank_34
  · have h := h.2 c8
    refine lv_bipush (v := (-2 : Int32)) hx hb dX8_rank_11 (by decide) ?_
    exact zz_iret hx hb hr hlocks hB h dX8_rank_13
theorem zc_X8_rank (l : Launch) (D : va_G) (ca : Nat → ClassId) (a : Nat → Nat) (I : zz_I) (L : zz_L) (sz : Nat) {x1 : Int64} {x3 : Int32} {P : Int32 → zz_I → zz_L → Prop}  (h : zp_X8_rank x1 x3 P I L) : Met l yX8_rank [.code yX8_rank cX8_rank 4 (some .int)] ({ frames := 6, cells := 0, slots := 0, locals := 161 } : Room) (zz_Pre D ca zz_dM [.ref (a 0), .long x1, .int x3] a I L sz) (zz_Qi D ca zz_dM (zz_A ca zz_dM a I L sz) a P) 0 0 (zz_A ca zz_dM a I L sz) :=
  zz_start (by decide) (Nat.le_of_ble_eq_true rfl) (fun p e s m below meth c X hsz hA => zq_X8_rank X hA  h)
def zp_X8_readings  (P : Int64 → zz_I → zz_L → Prop) (I : zz_I) (L : zz_L) : Prop := ∀ I2 : zz_I, I2 = zz_up I 0 0 (0 : Int32) → (zp_X8_all 14 (fun r10 I10 L10 => P r10 I10 L10) I2 L)
set_option maxHeartbeats 4000000 in
set_option maxRecDepth 100000 in
theorem zq_X8_readings {p : Program} {l : Launch} {e : Env} {s : State} {m : MethodId} {args : Array Value} {below : List Frame} {meth : Method} {c : Code} {D : va_G} {ca : Nat → ClassId} {A : Nat → Prop} {a : Nat → Nat}  {P : Int64 → zz_I → zz_L → Prop} {I : zz_I} {L : zz_L}  (X : zz_X p s m meth c cX8_readings RX8 (some .long) 1) (hA : ∀ q, s.heap.size ≤ q → A q)   (h : zp_X8_readings  P I L) : zz_Go p l e ({ frames := 6, cells := 0, slots := 0, locals := 148 } : Room) s m args below meth c 0 0 (MQ below (zz_Ql D ca zz_dM A a P) args s 0 0 A) D ca zz_dM A 1 0 a [] [(0, .ref (a 0))] I L := by
  obtain ⟨hx, hb, hml, hown, zw, hr, hlocks⟩ := id X
  intro H locs ls hB hl
  unfold zp_X8_readings at h
  refine lv_aload_n hx hb dX8_readings_0 rfl (lv_at hl 0 rfl) ?_
  refine lv_iconst (v := (0 : Int32)) hx hb dX8_readings_1 (by decide) ?_
  refine zz_puti hx hb hown zw hB zP_X8_94 zdM_0 rfl dX8_readings_2 (fun H locs hB => ?_)
  obtain ⟨I2, eI2⟩ : ∃ z : zz_I, z = zz_up I 0 0 (0 : Int32) := ⟨_, rfl⟩
  rw [← eI2] at hB
  have h := h I2 eI2
  refine lv_aload_n hx hb dX8_readings_5 rfl (lv_at hl 0 rfl) ?_
  refine lv_aload_n hx hb dX8_readings_6 rfl (lv_at hl 0 rfl) ?_
  refine zz_getr (k' := 14) hx hb hown zw hB zF_X8_50 zdM_0 rfl rfl dX8_readings_7 ?_
  refine zz_gol hB hA (zz_runV (As := [.ref (a 14)]) (rest := []) hx hb hml hown zw hB zM_X8_231 (zc_X8_all l D ca a I2 L H.size zdM_14 h) zdM_0 rfl rfl hl.1 rfl (Nat.le_of_ble_eq_true rfl) rfl rfl ⟨Nat.le_of_ble_eq_true rfl, Nat.le_of_ble_eq_true rfl⟩ dX8_readings_10 ⟨Nat.le_of_ble_eq_true rfl, Nat.le_of_ble_eq_true rfl⟩) (fun r10 I10 L10 H locs h hB => ?_)
  exact zz_lret hx hb hr hlocks hB h dX8_readings_13
theorem zc_X8_readings (l : Launch) (D : va_G) (ca : Nat → ClassId) (a : Nat → Nat) (I : zz_I) (L : zz_L) (sz : Nat)  {P : Int64 → zz_I → zz_L → Prop}  (h : zp_X8_readings  P I L) : Met l yX8_readings [.code yX8_readings cX8_readings 1 (some .long)] ({ frames := 6, cells := 0, slots := 0, locals := 148 } : Room) (zz_Pre D ca zz_dM [.ref (a 0)] a I L sz) (zz_Ql D ca zz_dM (zz_A ca zz_dM a I L sz) a P) 0 0 (zz_A ca zz_dM a I L sz) :=
  zz_start (by decide) (Nat.le_of_ble_eq_true rfl) (fun p e s m below meth c X hsz hA => zq_X8_readings X hA  h)
def zp_X8_rule (x1 : Int32) (x2 : Int32) (P : Int32 → zz_I → zz_L → Prop) (I : zz_I) (L : zz_L) : Prop := ∀ I2 : zz_I, I2 = zz_up I 0 0 (0 : Int32) → (zp_X8_in (x1.toInt64) (0 : Int64) (2 : Int64) (fun r11 => (r11 = 0 → P (-2 : Int32) I2 L) ∧ (¬ r11 = 0 → zp_X8_in (x2.toInt64) (0 : Int64) (2 : Int64) (fun r23 => (r23 = 0 → P (-2 : Int32) I2 L) ∧ (¬ r23 = 0 → vp_in (((2 : Int32) + ((3 : Int32) * x1)) + x2) 43 ∧ (P (I2 14 (((2 : Int32) + ((3 : Int32) * x1)) + x2).toNatClampNeg) I2 L))) I2 L)) I2 L)
set_option maxHeartbeats 4000000 in
set_option maxRecDepth 100000 in
theorem zq_X8_rule {p : Program} {l : Launch} {e : Env} {s : State} {m : MethodId} {args : Array Value} {below : List Frame} {meth : Method} {c : Code} {D : va_G} {ca : Nat → ClassId} {A : Nat → Prop} {a : Nat → Nat}  {P : Int32 → zz_I → zz_L → Prop} {I : zz_I} {L : zz_L} {x1 : Int32} {x2 : Int32} (X : zz_X p s m meth c cX8_rule RX8 (some .int) 3) (hA : ∀ q, s.heap.size ≤ q → A q)   (h : zp_X8_rule x1 x2 P I L) : zz_Go p l e ({ frames := 1, cells := 0, slots := 0, locals := 25 } : Room) s m args below meth c 0 0 (MQ below (zz_Qi D ca zz_dM A a P) args s 0 0 A) D ca zz_dM A 3 0 a [] [(0, .ref (a 0)), (1, .int x1), (2, .int x2)] I L := by
  obtain ⟨hx, hb, hml, hown, zw, hr, hlocks⟩ := id X
  intro H locs ls hB hl
  unfold zp_X8_rule at h
  refine lv_aload_n hx hb dX8_rule_0 rfl (lv_at hl 0 rfl) ?_
  refine lv_iconst (v := (0 : Int32)) hx hb dX8_rule_1 (by decide) ?_
  refine zz_puti hx hb hown zw hB zP_X8_94 zdM_0 rfl dX8_rule_2 (fun H locs hB => ?_)
  obtain ⟨I2, eI2⟩ : ∃ z : zz_I, z = zz_up I 0 0 (0 : Int32) := ⟨_, rfl⟩
  rw [← eI2] at hB
  have h := h I2 eI2
  refine lv_iload_n hx hb dX8_rule_5 rfl (lv_at hl 1 rfl) ?_
  refine lv_i2l (v := x1.toInt64) hx hb dX8_rule_6 rfl ?_
  refine lv_lconst (v := (0 : Int64)) hx hb dX8_rule_7 (by decide) ?_
  refine lv_ldc2 (v := (2 : Int64)) hx hb hown (zz_W_use zw zk_X8_158 rfl) dX8_rule_8 ?_
  refine zz_goip hB hA (zz_runS (As := [.long (x1.toInt64), .long (0 : Int64), .long (2 : Int64)]) (rest := []) hx hb hml hown zw hB zM_X8_101 (zc_X8_in l D ca a I2 L H.size h) rfl hl.1 rfl (Nat.le_of_ble_eq_true rfl) rfl rfl ⟨Nat.le_of_ble_eq_true rfl, Nat.le_of_ble_eq_true rfl⟩ dX8_rule_11 ⟨Nat.le_of_ble_eq_true rfl, Nat.le_of_ble_eq_true rfl⟩) (fun r11 H locs h hB => ?_)
  refine lv_if_eq (tgt := 44) hx hb dX8_rule_14 (by decide) (fun c14 => ?_) (fun c14 => ?_)
  · have h := h.1 c14
    refine lv_bipush (v := (-2 : Int32)) hx hb dX8_rule_44 (by decide) ?_
    exact zz_iret hx hb hr hlocks hB h dX8_rule_46
  · have h := h.2 c14
    refine lv_iload_n hx hb dX8_rule_17 rfl (lv_at hl 2 rfl) ?_
    refine lv_i2l (v := x2.toInt64) hx hb dX8_rule_18 rfl ?_
    refine lv_lconst (v := (0 : Int64)) hx hb dX8_rule_19 (by decide) ?_
    refine lv_ldc2 (v := (2 : Int64)) hx hb hown (zz_W_use zw zk_X8_158 rfl) dX8_rule_20 ?_
    refine zz_goip hB hA (zz_runS (As := [.long (x2.toInt64), .long (0 : Int64), .long (2 : Int64)]) (rest := []) hx hb hml hown zw hB zM_X8_101 (zc_X8_in l D ca a I2 L H.size h) rfl hl.1 rfl (Nat.le_of_ble_eq_true rfl) rfl rfl ⟨Nat.le_of_ble_eq_true rfl, Nat.le_of_ble_eq_true rfl⟩ dX8_rule_23 ⟨Nat.le_of_ble_eq_true rfl, Nat.le_of_ble_eq_true rfl⟩) (fun r23 H locs h hB => ?_)
    refine lv_if_eq (tgt := 44) hx hb dX8_rule_26 (by decide) (fun c26 => ?_) (fun c26 => ?_)
    · have h := h.1 c26
      refine lv_bipush (v := (-2 : Int32)) hx hb dX8_rule_44 (by decide) ?_
      exact zz_iret hx hb hr hlocks hB h dX8_rule_46
    · have h := h.2 c26
      refine lv_aload_n hx hb dX8_rule_29 rfl (lv_at hl 0 rfl) ?_
      refine zz_getr (k' := 14) hx hb hown zw hB zF_X8_50 zdM_0 rfl rfl dX8_rule_30 ?_
      refine lv_iconst (v := (2 : Int32)) hx hb dX8_rule_33 (by decide) ?_
      refine lv_iconst (v := (3 : Int32)) hx hb dX8_rule_34 (by decide) ?_
      refine lv_iload_n hx hb dX8_rule_35 rfl (lv_at hl 1 rfl) ?_
      refine lv_imul hx hb dX8_rule_36 ?_
      refine lv_iadd hx hb dX8_rule_37 ?_
      refine lv_iload_n hx hb dX8_rule_38 rfl (lv_at hl 2 rfl) ?_
      refine lv_iadd hx hb dX8_rule_39 ?_
      obtain ⟨hi40, h⟩ := h
      refine zz_iald hx hb hB zdM_14 hi40 dX8_rule_40 ?_
      refine lv_goto (tgt := 46) hx hb dX8_rule_41 (by decide) ?_
      exact zz_iret hx hb hr hlocks hB h dX8_rule_46
theorem zc_X8_rule (l : Launch) (D : va_G) (ca : Nat → ClassId) (a : Nat → Nat) (I : zz_I) (L : zz_L) (sz : Nat) {x1 : Int32} {x2 : Int32} {P : Int32 → zz_I → zz_L → Prop}  (h : zp_X8_rule x1 x2 P I L) : Met l yX8_rule [.code yX8_rule cX8_rule 3 (some .int)] ({ frames := 1, cells := 0, slots := 0, locals := 25 } : Room) (zz_Pre D ca zz_dM [.ref (a 0), .int x1, .int x2] a I L sz) (zz_Qi D ca zz_dM (zz_A ca zz_dM a I L sz) a P) 0 0 (zz_A ca zz_dM a I L sz) :=
  zz_start (by decide) (Nat.le_of_ble_eq_true rfl) (fun p e s m below meth c X hsz hA => zq_X8_rule X hA  h)
def zp_X8_see (x1 : Int32) (x2 : Int32) (x3 : Int32) (P : Int32 → zz_I → zz_L → Prop) (I : zz_I) (L : zz_L) : Prop := ∀ I2 : zz_I, I2 = zz_up I 0 0 (0 : Int32) → (zp_X8_noWord x1 (fun r7 => (¬ r7 = 0 → P (-1 : Int32) I2 L) ∧ (r7 = 0 → zp_X8_noUnit x2 (fun r15 => (r15 = 0 → zp_X8_in (x3.toInt64) (0 : Int64) (1 : Int64) (fun r27 => (¬ r27 = 0 → (¬ (I2 0 24) = (6 : Int32) → vp_in (I2 0 24) 6 ∧ (∀ I57 : zz_I, I57 = zz_up I2 19 (I2 0 24).toNatClampNeg x1 → (vp_in (I57 0 24) 6 ∧ (∀ I67 : zz_I, I67 = zz_up I57 20 (I57 0 24).toNatClampNeg x2 → (vp_in (I67 0 24) 6 ∧ (∀ I77 : zz_I, I77 = zz_up I67 21 (I67 0 24).toNatClampNeg x3 → (∀ I85 : zz_I, I85 = zz_up I77 0 24 ((I77 0 24) + (1 : Int32)) → (P (I85 0 24) I85 L)))))))) ∧ ((I2 0 24) = (6 : Int32) → P (-4 : Int32) I2 L)) ∧ (r27 = 0 → P (-2 : Int32) I2 L)) I2 L) ∧ (¬ r15 = 0 → P (-1 : Int32) I2 L)) I2 L)) I2 L)
set_option maxHeartbeats 4000000 in
set_option maxRecDepth 100000 in
theorem zq_X8_see {p : Program} {l : Launch} {e : Env} {s : State} {m : MethodId} {args : Array Value} {below : List Frame} {meth : Method} {c : Code} {D : va_G} {ca : Nat → ClassId} {A : Nat → Prop} {a : Nat → Nat}  {P : Int32 → zz_I → zz_L → Prop} {I : zz_I} {L : zz_L} {x1 : Int32} {x2 : Int32} {x3 : Int32} (X : zz_X p s m meth c cX8_see RX8 (some .int) 4) (hA : ∀ q, s.heap.size ≤ q → A q)   (h : zp_X8_see x1 x2 x3 P I L) : zz_Go p l e ({ frames := 2, cells := 0, slots := 0, locals := 46 } : Room) s m args below meth c 0 0 (MQ below (zz_Qi D ca zz_dM A a P) args s 0 0 A) D ca zz_dM A 4 0 a [] [(0, .ref (a 0)), (1, .int x1), (2, .int x2), (3, .int x3)] I L := by
  obtain ⟨hx, hb, hml, hown, zw, hr, hlocks⟩ := id X
  intro H locs ls hB hl
  unfold zp_X8_see at h
  refine lv_aload_n hx hb dX8_see_0 rfl (lv_at hl 0 rfl) ?_
  refine lv_iconst (v := (0 : Int32)) hx hb dX8_see_1 (by decide) ?_
  refine zz_puti hx hb hown zw hB zP_X8_94 zdM_0 rfl dX8_see_2 (fun H locs hB => ?_)
  obtain ⟨I2, eI2⟩ : ∃ z : zz_I, z = zz_up I 0 0 (0 : Int32) := ⟨_, rfl⟩
  rw [← eI2] at hB
  have h := h I2 eI2
  refine lv_aload_n hx hb dX8_see_5 rfl (lv_at hl 0 rfl) ?_
  refine lv_iload_n hx hb dX8_see_6 rfl (lv_at hl 1 rfl) ?_
  refine zz_goip hB hA (zz_runV (As := [.int x1]) (rest := []) hx hb hml hown zw hB zM_X8_148 (zc_X8_noWord l D ca a I2 L H.size h) zdM_0 rfl rfl hl.1 rfl (Nat.le_of_ble_eq_true rfl) rfl rfl ⟨Nat.le_of_ble_eq_true rfl, Nat.le_of_ble_eq_true rfl⟩ dX8_see_7 ⟨Nat.le_of_ble_eq_true rfl, Nat.le_of_ble_eq_true rfl⟩) (fun r7 H locs h hB => ?_)
  refine lv_if_ne (tgt := 21) hx hb dX8_see_10 (by decide) (fun c10 => ?_) (fun c10 => ?_)
  · have h := h.1 c10
    refine lv_iconst (v := (-1 : Int32)) hx hb dX8_see_21 (by decide) ?_
    exact zz_iret hx hb hr hlocks hB h dX8_see_22
  · have h := h.2 c10
    refine lv_aload_n hx hb dX8_see_13 rfl (lv_at hl 0 rfl) ?_
    refine lv_iload_n hx hb dX8_see_14 rfl (lv_at hl 2 rfl) ?_
    refine zz_goip hB hA (zz_runV (As := [.int x2]) (rest := []) hx hb hml hown zw hB zM_X8_155 (zc_X8_noUnit l D ca a I2 L H.size h) zdM_0 rfl rfl hl.1 rfl (Nat.le_of_ble_eq_true rfl) rfl rfl ⟨Nat.le_of_ble_eq_true rfl, Nat.le_of_ble_eq_true rfl⟩ dX8_see_15 ⟨Nat.le_of_ble_eq_true rfl, Nat.le_of_ble_eq_true rfl⟩) (fun r15 H locs h hB => ?_)
    refine lv_if_eq (tgt := 23) hx hb dX8_see_18 (by decide) (fun c18 => ?_) (fun c18 => ?_)
    · have h := h.1 c18
      refine lv_iload_n hx hb dX8_see_23 rfl (lv_at hl 3 rfl) ?_
      refine lv_i2l (v := x3.toInt64) hx hb dX8_see_24 rfl ?_
      refine lv_lconst (v := (0 : Int64)) hx hb dX8_see_25 (by decide) ?_
      refine lv_lconst (v := (1 : Int64)) hx hb dX8_see_26 (by decide) ?_
      refine zz_goip hB hA (zz_runS (As := [.long (x3.toInt64), .long (0 : Int64), .long (1 : Int64)]) (rest := []) hx hb hml hown zw hB zM_X8_101 (zc_X8_in l D ca a I2 L H.size h) rfl hl.1 rfl (Nat.le_of_ble_eq_true rfl) rfl rfl ⟨Nat.le_of_ble_eq_true rfl, Nat.le_of_ble_eq_true rfl⟩ dX8_see_27 ⟨Nat.le_of_ble_eq_true rfl, Nat.le_of_ble_eq_true rfl⟩) (fun r27 H locs h hB => ?_)
      refine lv_if_ne (tgt := 36) hx hb dX8_see_30 (by decide) (fun c30 => ?_) (fun c30 => ?_)
      · have h := h.1 c30
        refine lv_aload_n hx hb dX8_see_36 rfl (lv_at hl 0 rfl) ?_
        refine zz_geti hx hb hown zw hB zF_X8_196 zdM_0 rfl dX8_see_37 ?_
        refine lv_bipush (v := (6 : Int32)) hx hb dX8_see_40 (by decide) ?_
        refine lv_icmp_ne (tgt := 48) hx hb dX8_see_42 (by decide) (fun c42 => ?_) (fun c42 => ?_)
        · have h := h.1 c42
          refine lv_aload_n hx hb dX8_see_48 rfl (lv_at hl 0 rfl) ?_
          refine zz_getr (k' := 19) hx hb hown zw hB zF_X8_65 zdM_0 rfl rfl dX8_see_49 ?_
          refine lv_aload_n hx hb dX8_see_52 rfl (lv_at hl 0 rfl) ?_
          refine zz_geti hx hb hown zw hB zF_X8_196 zdM_0 rfl dX8_see_53 ?_
          refine lv_iload_n hx hb dX8_see_56 rfl (lv_at hl 1 rfl) ?_
          obtain ⟨hi57, h⟩ := h
          refine zz_iast hx hb hB zdM_19 hi57 dX8_see_57 (fun H locs hB => ?_)
          obtain ⟨I57, eI57⟩ : ∃ z : zz_I, z = zz_up I2 19 (I2 0 24).toNatClampNeg x1 := ⟨_, rfl⟩
          rw [← eI57] at hB
          have h := h I57 eI57
          refine lv_aload_n hx hb dX8_see_58 rfl (lv_at hl 0 rfl) ?_
          refine zz_getr (k' := 20) hx hb hown zw hB zF_X8_68 zdM_0 rfl rfl dX8_see_59 ?_
          refine lv_aload_n hx hb dX8_see_62 rfl (lv_at hl 0 rfl) ?_
          refine zz_geti hx hb hown zw hB zF_X8_196 zdM_0 rfl dX8_see_63 ?_
          refine lv_iload_n hx hb dX8_see_66 rfl (lv_at hl 2 rfl) ?_
          obtain ⟨hi67, h⟩ := h
          refine zz_iast hx hb hB zdM_20 hi67 dX8_see_67 (fun H locs hB => ?_)
          obtain ⟨I67, eI67⟩ : ∃ z : zz_I, z = zz_up I57 20 (I57 0 24).toNatClampNeg x2 := ⟨_, rfl⟩
          rw [← eI67] at hB
          have h := h I67 eI67
          refine lv_aload_n hx hb dX8_see_68 rfl (lv_at hl 0 rfl) ?_
          refine zz_getr (k' := 21) hx hb hown zw hB zF_X8_71 zdM_0 rfl rfl dX8_see_69 ?_
          refine lv_aload_n hx hb dX8_see_72 rfl (lv_at hl 0 rfl) ?_
          refine zz_geti hx hb hown zw hB zF_X8_196 zdM_0 rfl dX8_see_73 ?_
          refine lv_iload_n hx hb dX8_see_76 rfl (lv_at hl 3 rfl) ?_
          obtain ⟨hi77, h⟩ := h
          refine zz_iast hx hb hB zdM_21 hi77 dX8_see_77 (fun H locs hB => ?_)
          obtain ⟨I77, eI77⟩ : ∃ z : zz_I, z = zz_up I67 21 (I67 0 24).toNatClampNeg x3 := ⟨_, rfl⟩
          rw [← eI77] at hB
          have h := h I77 eI77
          refine lv_aload_n hx hb dX8_see_78 rfl (lv_at hl 0 rfl) ?_
          refine lv_dup hx hb dX8_see_79 rfl ?_
          refine zz_geti hx hb hown zw hB zF_X8_196 zdM_0 rfl dX8_see_80 ?_
          refine lv_iconst (v := (1 : Int32)) hx hb dX8_see_83 (by decide) ?_
          refine lv_iadd hx hb dX8_see_84 ?_
          refine zz_puti hx hb hown zw hB zP_X8_196 zdM_0 rfl dX8_see_85 (fun H locs hB => ?_)
          obtain ⟨I85, eI85⟩ : ∃ z : zz_I, z = zz_up I77 0 24 ((I77 0 24) + (1 : Int32)) := ⟨_, rfl⟩
          rw [← eI85] at hB
          have h := h I85 eI85
          refine lv_aload_n hx hb dX8_see_88 rfl (lv_at hl 0 rfl) ?_
          refine zz_geti hx hb hown zw hB zF_X8_196 zdM_0 rfl dX8_see_89 ?_
          exact zz_iret hx hb hr hlocks hB h dX8_see_92
        · have h := h.2 c42
          refine lv_bipush (v := (-4 : Int32)) hx hb dX8_see_45 (by decide) ?_
          exact zz_iret hx hb hr hlocks hB h dX8_see_47
      · have h := h.2 c30
        refine lv_bipush (v := (-2 : Int32)) hx hb dX8_see_33 (by decide) ?_
        exact zz_iret hx hb hr hlocks hB h dX8_see_35
    · have h := h.2 c18
      refine lv_iconst (v := (-1 : Int32)) hx hb dX8_see_21 (by decide) ?_
      exact zz_iret hx hb hr hlocks hB h dX8_see_22
theorem zc_X8_see (l : Launch) (D : va_G) (ca : Nat → ClassId) (a : Nat → Nat) (I : zz_I) (L : zz_L) (sz : Nat) {x1 : Int32} {x2 : Int32} {x3 : Int32} {P : Int32 → zz_I → zz_L → Prop}  (h : zp_X8_see x1 x2 x3 P I L) : Met l yX8_see [.code yX8_see cX8_see 4 (some .int)] ({ frames := 2, cells := 0, slots := 0, locals := 46 } : Room) (zz_Pre D ca zz_dM [.ref (a 0), .int x1, .int x2, .int x3] a I L sz) (zz_Qi D ca zz_dM (zz_A ca zz_dM a I L sz) a P) 0 0 (zz_A ca zz_dM a I L sz) :=
  zz_start (by decide) (Nat.le_of_ble_eq_true rfl) (fun p e s m below meth c X hsz hA => zq_X8_see X hA  h)
def zp_X8_seed (x1 : Int64) (P : Int64 → zz_I → zz_L → Prop) (I : zz_I) (L : zz_L) : Prop := ∀ I2 : zz_I, I2 = zz_up I 0 0 (0 : Int32) → (∀ v9 : Int64, v9 = L 0 28 → (∀ L12 : zz_L, L12 = zz_up L 0 28 x1 → (P v9 I2 L12)))
set_option maxHeartbeats 4000000 in
set_option maxRecDepth 100000 in
theorem zq_X8_seed {p : Program} {l : Launch} {e : Env} {s : State} {m : MethodId} {args : Array Value} {below : List Frame} {meth : Method} {c : Code} {D : va_G} {ca : Nat → ClassId} {A : Nat → Prop} {a : Nat → Nat}  {P : Int64 → zz_I → zz_L → Prop} {I : zz_I} {L : zz_L} {x1 : Int64} (X : zz_X p s m meth c cX8_seed RX8 (some .long) 5) (hA : ∀ q, s.heap.size ≤ q → A q)   (h : zp_X8_seed x1 P I L) : zz_Go p l e ({ frames := 0, cells := 0, slots := 0, locals := 0 } : Room) s m args below meth c 0 0 (MQ below (zz_Ql D ca zz_dM A a P) args s 0 0 A) D ca zz_dM A 5 0 a [] [(0, .ref (a 0)), (1, .long x1)] I L := by
  obtain ⟨hx, hb, hml, hown, zw, hr, hlocks⟩ := id X
  intro H locs ls hB hl
  unfold zp_X8_seed at h
  refine lv_aload_n hx hb dX8_seed_0 rfl (lv_at hl 0 rfl) ?_
  refine lv_iconst (v := (0 : Int32)) hx hb dX8_seed_1 (by decide) ?_
  refine zz_puti hx hb hown zw hB zP_X8_94 zdM_0 rfl dX8_seed_2 (fun H locs hB => ?_)
  obtain ⟨I2, eI2⟩ : ∃ z : zz_I, z = zz_up I 0 0 (0 : Int32) := ⟨_, rfl⟩
  rw [← eI2] at hB
  have h := h I2 eI2
  refine lv_aload_n hx hb dX8_seed_5 rfl (lv_at hl 0 rfl) ?_
  refine zz_getl hx hb hown zw hB zF_X8_301 zdM_0 rfl dX8_seed_6 ?_
  refine lv_topl (fun v9 ev9 => ?_)
  have h := h v9 ev9
  refine lv_lstore_n (lv' := [(3, .long v9), (0, .ref (a 0)), (1, .long x1)]) hx hb dX8_seed_9 rfl hl (by decide) rfl (fun ls hl => ?_)
  refine lv_aload_n hx hb dX8_seed_10 rfl (lv_at hl 1 rfl) ?_
  refine lv_lload_n hx hb dX8_seed_11 rfl (lv_at hl 2 rfl) ?_
  refine zz_putl hx hb hown zw hB zP_X8_301 zdM_0 rfl dX8_seed_12 (fun H locs hB => ?_)
  obtain ⟨L12, eL12⟩ : ∃ z : zz_L, z = zz_up L 0 28 x1 := ⟨_, rfl⟩
  rw [← eL12] at hB
  have h := h L12 eL12
  refine lv_lload_n hx hb dX8_seed_15 rfl (lv_at hl 0 rfl) ?_
  exact zz_lret hx hb hr hlocks hB h dX8_seed_16
theorem zc_X8_seed (l : Launch) (D : va_G) (ca : Nat → ClassId) (a : Nat → Nat) (I : zz_I) (L : zz_L) (sz : Nat) {x1 : Int64} {P : Int64 → zz_I → zz_L → Prop}  (h : zp_X8_seed x1 P I L) : Met l yX8_seed [.code yX8_seed cX8_seed 5 (some .long)] ({ frames := 0, cells := 0, slots := 0, locals := 0 } : Room) (zz_Pre D ca zz_dM [.ref (a 0), .long x1] a I L sz) (zz_Ql D ca zz_dM (zz_A ca zz_dM a I L sz) a P) 0 0 (zz_A ca zz_dM a I L sz) :=
  zz_start (by decide) (Nat.le_of_ble_eq_true rfl) (fun p e s m below meth c X hsz hA => zq_X8_seed X hA  h)
def zp_X8_setRule (x1 : Int32) (x2 : Int32) (x3 : Int32) (P : Int32 → zz_I → zz_L → Prop) (I : zz_I) (L : zz_L) : Prop := ∀ I2 : zz_I, I2 = zz_up I 0 0 (0 : Int32) → (zp_X8_in (x1.toInt64) (0 : Int64) (2 : Int64) (fun r11 => (r11 = 0 → P (-2 : Int32) I2 L) ∧ (¬ r11 = 0 → zp_X8_in (x2.toInt64) (0 : Int64) (2 : Int64) (fun r23 => (r23 = 0 → P (-2 : Int32) I2 L) ∧ (¬ r23 = 0 → zp_X8_in (x3.toInt64) (0 : Int64) (2 : Int64) (fun r35 => (¬ r35 = 0 → zp_X8_note  (fun I45 L45 => vp_in (((2 : Int32) + ((3 : Int32) * x1)) + x2) 43 ∧ (∀ v60 : Int32, v60 = I45 14 (((2 : Int32) + ((3 : Int32) * x1)) + x2).toNatClampNeg → (vp_in (((2 : Int32) + ((3 : Int32) * x1)) + x2) 43 ∧ (∀ I74 : zz_I, I74 = zz_up I45 14 (((2 : Int32) + ((3 : Int32) * x1)) + x2).toNatClampNeg x3 → (P v60 I74 L45))))) I2 L) ∧ (r35 = 0 → P (-2 : Int32) I2 L)) I2 L)) I2 L)) I2 L)
set_option maxHeartbeats 4000000 in
set_option maxRecDepth 100000 in
theorem zq_X8_setRule {p : Program} {l : Launch} {e : Env} {s : State} {m : MethodId} {args : Array Value} {below : List Frame} {meth : Method} {c : Code} {D : va_G} {ca : Nat → ClassId} {A : Nat → Prop} {a : Nat → Nat}  {P : Int32 → zz_I → zz_L → Prop} {I : zz_I} {L : zz_L} {x1 : Int32} {x2 : Int32} {x3 : Int32} (X : zz_X p s m meth c cX8_setRule RX8 (some .int) 5) (hA : ∀ q, s.heap.size ≤ q → A q)   (h : zp_X8_setRule x1 x2 x3 P I L) : zz_Go p l e ({ frames := 1, cells := 0, slots := 0, locals := 25 } : Room) s m args below meth c 0 0 (MQ below (zz_Qi D ca zz_dM A a P) args s 0 0 A) D ca zz_dM A 5 0 a [] [(0, .ref (a 0)), (1, .int x1), (2, .int x2), (3, .int x3)] I L := by
  obtain ⟨hx, hb, hml, hown, zw, hr, hlocks⟩ := id X
  intro H locs ls hB hl
  unfold zp_X8_setRule at h
  refine lv_aload_n hx hb dX8_setRule_0 rfl (lv_at hl 0 rfl) ?_
  refine lv_iconst (v := (0 : Int32)) hx hb dX8_setRule_1 (by decide) ?_
  refine zz_puti hx hb hown zw hB zP_X8_94 zdM_0 rfl dX8_setRule_2 (fun H locs hB => ?_)
  obtain ⟨I2, eI2⟩ : ∃ z : zz_I, z = zz_up I 0 0 (0 : Int32) := ⟨_, rfl⟩
  rw [← eI2] at hB
  have h := h I2 eI2
  refine lv_iload_n hx hb dX8_setRule_5 rfl (lv_at hl 1 rfl) ?_
  refine lv_i2l (v := x1.toInt64) hx hb dX8_setRule_6 rfl ?_
  refine lv_lconst (v := (0 : Int64)) hx hb dX8_setRule_7 (by decide) ?_
  refine lv_ldc2 (v := (2 : Int64)) hx hb hown (zz_W_use zw zk_X8_158 rfl) dX8_setRule_8 ?_
  refine zz_goip hB hA (zz_runS (As := [.long (x1.toInt64), .long (0 : Int64), .long (2 : Int64)]) (rest := []) hx hb hml hown zw hB zM_X8_101 (zc_X8_in l D ca a I2 L H.size h) rfl hl.1 rfl (Nat.le_of_ble_eq_true rfl) rfl rfl ⟨Nat.le_of_ble_eq_true rfl, Nat.le_of_ble_eq_true rfl⟩ dX8_setRule_11 ⟨Nat.le_of_ble_eq_true rfl, Nat.le_of_ble_eq_true rfl⟩) (fun r11 H locs h hB => ?_)
  refine lv_if_eq (tgt := 41) hx hb dX8_setRule_14 (by decide) (fun c14 => ?_) (fun c14 => ?_)
  · have h := h.1 c14
    refine lv_bipush (v := (-2 : Int32)) hx hb dX8_setRule_41 (by decide) ?_
    exact zz_iret hx hb hr hlocks hB h dX8_setRule_43
  · have h := h.2 c14
    refine lv_iload_n hx hb dX8_setRule_17 rfl (lv_at hl 2 rfl) ?_
    refine lv_i2l (v := x2.toInt64) hx hb dX8_setRule_18 rfl ?_
    refine lv_lconst (v := (0 : Int64)) hx hb dX8_setRule_19 (by decide) ?_
    refine lv_ldc2 (v := (2 : Int64)) hx hb hown (zz_W_use zw zk_X8_158 rfl) dX8_setRule_20 ?_
    refine zz_goip hB hA (zz_runS (As := [.long (x2.toInt64), .long (0 : Int64), .long (2 : Int64)]) (rest := []) hx hb hml hown zw hB zM_X8_101 (zc_X8_in l D ca a I2 L H.size h) rfl hl.1 rfl (Nat.le_of_ble_eq_true rfl) rfl rfl ⟨Nat.le_of_ble_eq_true rfl, Nat.le_of_ble_eq_true rfl⟩ dX8_setRule_23 ⟨Nat.le_of_ble_eq_true rfl, Nat.le_of_ble_eq_true rfl⟩) (fun r23 H locs h hB => ?_)
    refine lv_if_eq (tgt := 41) hx hb dX8_setRule_26 (by decide) (fun c26 => ?_) (fun c26 => ?_)
    · have h := h.1 c26
      refine lv_bipush (v := (-2 : Int32)) hx hb dX8_setRule_41 (by decide) ?_
      exact zz_iret hx hb hr hlocks hB h dX8_setRule_43
    · have h := h.2 c26
      refine lv_iload_n hx hb dX8_setRule_29 rfl (lv_at hl 3 rfl) ?_
      refine lv_i2l (v := x3.toInt64) hx hb dX8_setRule_30 rfl ?_
      refine lv_lconst (v := (0 : Int64)) hx hb dX8_setRule_31 (by decide) ?_
      refine lv_ldc2 (v := (2 : Int64)) hx hb hown (zz_W_use zw zk_X8_158 rfl) dX8_setRule_32 ?_
      refine zz_goip hB hA (zz_runS (As := [.long (x3.toInt64), .long (0 : Int64), .long (2 : Int64)]) (rest := []) hx hb hml hown zw hB zM_X8_101 (zc_X8_in l D ca a I2 L H.size h) rfl hl.1 rfl (Nat.le_of_ble_eq_true rfl) rfl rfl ⟨Nat.le_of_ble_eq_true rfl, Nat.le_of_ble_eq_true rfl⟩ dX8_setRule_35 ⟨Nat.le_of_ble_eq_true rfl, Nat.le_of_ble_eq_true rfl⟩) (fun r35 H locs h hB => ?_)
      refine lv_if_ne (tgt := 44) hx hb dX8_setRule_38 (by decide) (fun c38 => ?_) (fun c38 => ?_)
      · have h := h.1 c38
        refine lv_aload_n hx hb dX8_setRule_44 rfl (lv_at hl 0 rfl) ?_
        refine zz_gov hB hA (zz_runV (As := []) (rest := []) hx hb hml hown zw hB zM_X8_167 (zc_X8_note l D ca a I2 L H.size h) zdM_0 rfl rfl hl.1 rfl (Nat.le_of_ble_eq_true rfl) rfl rfl ⟨Nat.le_of_ble_eq_true rfl, Nat.le_of_ble_eq_true rfl⟩ dX8_setRule_45 ⟨Nat.le_of_ble_eq_true rfl, Nat.le_of_ble_eq_true rfl⟩) (fun I45 L45 H locs h hB => ?_)
        refine lv_aload_n hx hb dX8_setRule_48 rfl (lv_at hl 0 rfl) ?_
        refine zz_getr (k' := 14) hx hb hown zw hB zF_X8_50 zdM_0 rfl rfl dX8_setRule_49 ?_
        refine lv_iconst (v := (2 : Int32)) hx hb dX8_setRule_52 (by decide) ?_
        refine lv_iconst (v := (3 : Int32)) hx hb dX8_setRule_53 (by decide) ?_
        refine lv_iload_n hx hb dX8_setRule_54 rfl (lv_at hl 1 rfl) ?_
        refine lv_imul hx hb dX8_setRule_55 ?_
        refine lv_iadd hx hb dX8_setRule_56 ?_
        refine lv_iload_n hx hb dX8_setRule_57 rfl (lv_at hl 2 rfl) ?_
        refine lv_iadd hx hb dX8_setRule_58 ?_
        obtain ⟨hi59, h⟩ := h
        refine zz_iald hx hb hB zdM_14 hi59 dX8_setRule_59 ?_
        refine lv_topi (fun v60 ev60 => ?_)
        have h := h v60 ev60
        refine lv_istore (lv' := [(4, .int v60), (0, .ref (a 0)), (1, .int x1), (2, .int x2), (3, .int x3)]) hx hb dX8_setRule_60 hl (by decide) rfl (fun ls hl => ?_)
        refine lv_aload_n hx hb dX8_setRule_62 rfl (lv_at hl 1 rfl) ?_
        refine zz_getr (k' := 14) hx hb hown zw hB zF_X8_50 zdM_0 rfl rfl dX8_setRule_63 ?_
        refine lv_iconst (v := (2 : Int32)) hx hb dX8_setRule_66 (by decide) ?_
        refine lv_iconst (v := (3 : Int32)) hx hb dX8_setRule_67 (by decide) ?_
        refine lv_iload_n hx hb dX8_setRule_68 rfl (lv_at hl 2 rfl) ?_
        refine lv_imul hx hb dX8_setRule_69 ?_
        refine lv_iadd hx hb dX8_setRule_70 ?_
        refine lv_iload_n hx hb dX8_setRule_71 rfl (lv_at hl 3 rfl) ?_
        refine lv_iadd hx hb dX8_setRule_72 ?_
        refine lv_iload_n hx hb dX8_setRule_73 rfl (lv_at hl 4 rfl) ?_
        obtain ⟨hi74, h⟩ := h
        refine zz_iast hx hb hB zdM_14 hi74 dX8_setRule_74 (fun H locs hB => ?_)
        obtain ⟨I74, eI74⟩ : ∃ z : zz_I, z = zz_up I45 14 (((2 : Int32) + ((3 : Int32) * x1)) + x2).toNatClampNeg x3 := ⟨_, rfl⟩
        rw [← eI74] at hB
        have h := h I74 eI74
        refine lv_iload hx hb dX8_setRule_75 (lv_at hl 0 rfl) ?_
        exact zz_iret hx hb hr hlocks hB h dX8_setRule_77
      · have h := h.2 c38
        refine lv_bipush (v := (-2 : Int32)) hx hb dX8_setRule_41 (by decide) ?_
        exact zz_iret hx hb hr hlocks hB h dX8_setRule_43
theorem zc_X8_setRule (l : Launch) (D : va_G) (ca : Nat → ClassId) (a : Nat → Nat) (I : zz_I) (L : zz_L) (sz : Nat) {x1 : Int32} {x2 : Int32} {x3 : Int32} {P : Int32 → zz_I → zz_L → Prop}  (h : zp_X8_setRule x1 x2 x3 P I L) : Met l yX8_setRule [.code yX8_setRule cX8_setRule 5 (some .int)] ({ frames := 1, cells := 0, slots := 0, locals := 25 } : Room) (zz_Pre D ca zz_dM [.ref (a 0), .int x1, .int x2, .int x3] a I L sz) (zz_Qi D ca zz_dM (zz_A ca zz_dM a I L sz) a P) 0 0 (zz_A ca zz_dM a I L sz) :=
  zz_start (by decide) (Nat.le_of_ble_eq_true rfl) (fun p e s m below meth c X hsz hA => zq_X8_setRule X hA  h)
def zp_X8_share_26b (K26 : Int64 → Int32 → Prop) (P : Int64 → zz_I → zz_L → Prop) (x1 : Int32) (x2 : Int32) (x3 : Int64) (x5 : Int32) (I : zz_I) (L : zz_L) : Prop := (((1 : Int32) <<< ((I 0 5) &&& 31)) ≤ x5 → zp_X8_factorial (I 0 5) (fun r109 => zp_X8_fraction x3 r109 x2 (fun r113 => P r113 I L) I L) I L) ∧ (¬ ((1 : Int32) <<< ((I 0 5) &&& 31)) ≤ x5 → zp_X8_ones x5 (fun r39 => zp_X8_has x5 x1 (fun r48 => (r48 = 0 → zp_X8_factorial r39 (fun r60 => zp_X8_factorial (((I 0 5) - (1 : Int32)) - r39) (fun r72 => vp_in (x5 ||| ((1 : Int32) <<< (x1 &&& 31))) 256 ∧ (vp_in x5 256 ∧ (∀ v97 : Int64, v97 = x3 + ((r60 * r72) * ((L 26 (x5 ||| ((1 : Int32) <<< (x1 &&& 31))).toNatClampNeg) - (L 26 x5.toNatClampNeg))) → (∀ v98 : Int32, v98 = x5 + (1 : Int32) → (K26 v97 v98))))) I L) I L) ∧ (¬ r48 = 0 → ∀ v97 : Int64, v97 = x3 + (0 : Int64) → (∀ v98 : Int32, v98 = x5 + (1 : Int32) → (K26 v97 v98)))) I L) I L)
set_option maxHeartbeats 4000000 in
set_option maxRecDepth 100000 in
theorem zq_X8_share_26b {p : Program} {l : Launch} {e : Env} {s : State} {m : MethodId} {args : Array Value} {below : List Frame} {meth : Method} {c : Code} {D : va_G} {ca : Nat → ClassId} {A : Nat → Prop} {a : Nat → Nat} {K26 : Int64 → Int32 → Prop} {P : Int64 → zz_I → zz_L → Prop} {I : zz_I} {L : zz_L} {x1 : Int32} {x2 : Int32} {x3 : Int64} {x5 : Int32} (X : zz_X p s m meth c cX8_share RX8 (some .long) 7) (hA : ∀ q, s.heap.size ≤ q → A q)  (hK26 : ∀ (y3 : Int64) (y5 : Int32), K26 y3 y5 → zz_Go p l e ({ frames := 7, cells := 0, slots := 0, locals := 169 } : Room) s m args below meth c 0 0 (MQ below (zz_Ql D ca zz_dM A a P) args s 0 0 A) D ca zz_dM A 7 26 a [] [(0, .ref (a 0)), (1, .int x1), (2, .int x2), (3, .long y3), (5, .int y5)] I L) (h : zp_X8_share_26b K26 P x1 x2 x3 x5 I L) : zz_Go p l e ({ frames := 7, cells := 0, slots := 0, locals := 169 } : Room) s m args below meth c 0 0 (MQ below (zz_Ql D ca zz_dM A a P) args s 0 0 A) D ca zz_dM A 7 26 a [] [(0, .ref (a 0)), (1, .int x1), (2, .int x2), (3, .long x3), (5, .int x5)] I L := by
  obtain ⟨hx, hb, hml, hown, zw, hr, hlocks⟩ := id X
  intro H locs ls hB hl
  unfold zp_X8_share_26b at h
  refine lv_iload hx hb dX8_share_26 (lv_at hl 4 rfl) ?_
  refine lv_iconst (v := (1 : Int32)) hx hb dX8_share_28 (by decide) ?_
  refine lv_aload_n hx hb dX8_share_29 rfl (lv_at hl 0 rfl) ?_
  refine zz_geti hx hb hown zw hB zF_X8_98 zdM_0 rfl dX8_share_30 ?_
  refine lv_ishl hx hb dX8_share_33 ?_
  refine lv_icmp_ge (tgt := 104) hx hb dX8_share_34 (by decide) (fun c34 => ?_) (fun c34 => ?_)
  · have h := h.1 c34
    refine lv_lload_n hx hb dX8_share_104 rfl (lv_at hl 3 rfl) ?_
    refine lv_aload_n hx hb dX8_share_105 rfl (lv_at hl 0 rfl) ?_
    refine zz_geti hx hb hown zw hB zF_X8_98 zdM_0 rfl dX8_share_106 ?_
    refine zz_golp hB hA (zz_runS (As := [.int (I 0 5)]) (rest := [.long x3]) hx hb hml hown zw hB zM_X8_287 (zc_X8_factorial l D ca a I L H.size h) rfl hl.1 rfl (Nat.le_of_ble_eq_true rfl) rfl rfl ⟨Nat.le_of_ble_eq_true rfl, Nat.le_of_ble_eq_true rfl⟩ dX8_share_109 ⟨Nat.le_of_ble_eq_true rfl, Nat.le_of_ble_eq_true rfl⟩) (fun r109 H locs h hB => ?_)
    refine lv_iload_n hx hb dX8_share_112 rfl (lv_at hl 2 rfl) ?_
    refine zz_golp hB hA (zz_runS (As := [.long x3, .long r109, .int x2]) (rest := []) hx hb hml hown zw hB zM_X8_291 (zc_X8_fraction l D ca a I L H.size h) rfl hl.1 rfl (Nat.le_of_ble_eq_true rfl) rfl rfl ⟨Nat.le_of_ble_eq_true rfl, Nat.le_of_ble_eq_true rfl⟩ dX8_share_113 ⟨Nat.le_of_ble_eq_true rfl, Nat.le_of_ble_eq_true rfl⟩) (fun r113 H locs h hB => ?_)
    exact zz_lret hx hb hr hlocks hB h dX8_share_116
  · have h := h.2 c34
    refine lv_iload hx hb dX8_share_37 (lv_at hl 4 rfl) ?_
    refine zz_goip hB hA (zz_runS (As := [.int x5]) (rest := []) hx hb hml hown zw hB zM_X8_284 (zc_X8_ones l D ca a I L H.size h) rfl hl.1 rfl (Nat.le_of_ble_eq_true rfl) rfl rfl ⟨Nat.le_of_ble_eq_true rfl, Nat.le_of_ble_eq_true rfl⟩ dX8_share_39 ⟨Nat.le_of_ble_eq_true rfl, Nat.le_of_ble_eq_true rfl⟩) (fun r39 H locs h hB => ?_)
    refine lv_istore (lv' := [(6, .int r39), (0, .ref (a 0)), (1, .int x1), (2, .int x2), (3, .long x3), (5, .int x5)]) hx hb dX8_share_42 hl (by decide) rfl (fun ls hl => ?_)
    refine lv_lload_n hx hb dX8_share_44 rfl (lv_at hl 4 rfl) ?_
    refine lv_iload hx hb dX8_share_45 (lv_at hl 5 rfl) ?_
    refine lv_iload_n hx hb dX8_share_47 rfl (lv_at hl 2 rfl) ?_
    refine zz_goip hB hA (zz_runS (As := [.int x5, .int x1]) (rest := [.long x3]) hx hb hml hown zw hB zM_X8_186 (zc_X8_has l D ca a I L H.size h) rfl hl.1 rfl (Nat.le_of_ble_eq_true rfl) rfl rfl ⟨Nat.le_of_ble_eq_true rfl, Nat.le_of_ble_eq_true rfl⟩ dX8_share_48 ⟨Nat.le_of_ble_eq_true rfl, Nat.le_of_ble_eq_true rfl⟩) (fun r48 H locs h hB => ?_)
    refine lv_if_eq (tgt := 58) hx hb dX8_share_51 (by decide) (fun c51 => ?_) (fun c51 => ?_)
    · have h := h.1 c51
      refine lv_iload hx hb dX8_share_58 (lv_at hl 0 rfl) ?_
      refine zz_golp hB hA (zz_runS (As := [.int r39]) (rest := [.long x3]) hx hb hml hown zw hB zM_X8_287 (zc_X8_factorial l D ca a I L H.size h) rfl hl.1 rfl (Nat.le_of_ble_eq_true rfl) rfl rfl ⟨Nat.le_of_ble_eq_true rfl, Nat.le_of_ble_eq_true rfl⟩ dX8_share_60 ⟨Nat.le_of_ble_eq_true rfl, Nat.le_of_ble_eq_true rfl⟩) (fun r60 H locs h hB => ?_)
      refine lv_aload_n hx hb dX8_share_63 rfl (lv_at hl 1 rfl) ?_
      refine zz_geti hx hb hown zw hB zF_X8_98 zdM_0 rfl dX8_share_64 ?_
      refine lv_iconst (v := (1 : Int32)) hx hb dX8_share_67 (by decide) ?_
      refine lv_isub hx hb dX8_share_68 ?_
      refine lv_iload hx hb dX8_share_69 (lv_at hl 0 rfl) ?_
      refine lv_isub hx hb dX8_share_71 ?_
      refine zz_golp hB hA (zz_runS (As := [.int (((I 0 5) - (1 : Int32)) - r39)]) (rest := [.long r60, .long x3]) hx hb hml hown zw hB zM_X8_287 (zc_X8_factorial l D ca a I L H.size h) rfl hl.1 rfl (Nat.le_of_ble_eq_true rfl) rfl rfl ⟨Nat.le_of_ble_eq_true rfl, Nat.le_of_ble_eq_true rfl⟩ dX8_share_72 ⟨Nat.le_of_ble_eq_true rfl, Nat.le_of_ble_eq_true rfl⟩) (fun r72 H locs h hB => ?_)
      refine lv_lmul hx hb dX8_share_75 ?_
      refine lv_aload_n hx hb dX8_share_76 rfl (lv_at hl 1 rfl) ?_
      refine zz_getr (k' := 26) hx hb hown zw hB zF_X8_87 zdM_0 rfl rfl dX8_share_77 ?_
      refine lv_iload hx hb dX8_share_80 (lv_at hl 5 rfl) ?_
      refine lv_iconst (v := (1 : Int32)) hx hb dX8_share_82 (by decide) ?_
      refine lv_iload_n hx hb dX8_share_83 rfl (lv_at hl 2 rfl) ?_
      refine lv_ishl hx hb dX8_share_84 ?_
      refine lv_ior hx hb dX8_share_85 ?_
      obtain ⟨hi86, h⟩ := h
      refine zz_lald hx hb hB zdM_26 hi86 dX8_share_86 ?_
      refine lv_aload_n hx hb dX8_share_87 rfl (lv_at hl 1 rfl) ?_
      refine zz_getr (k' := 26) hx hb hown zw hB zF_X8_87 zdM_0 rfl rfl dX8_share_88 ?_
      refine lv_iload hx hb dX8_share_91 (lv_at hl 5 rfl) ?_
      obtain ⟨hi93, h⟩ := h
      refine zz_lald hx hb hB zdM_26 hi93 dX8_share_93 ?_
      refine lv_lsub hx hb dX8_share_94 ?_
      refine lv_lmul hx hb dX8_share_95 ?_
      refine lv_ladd hx hb dX8_share_96 ?_
      refine lv_topl (fun v97 ev97 => ?_)
      have h := h v97 ev97
      refine lv_lstore_n (lv' := [(3, .long v97), (6, .int r39), (0, .ref (a 0)), (1, .int x1), (2, .int x2), (5, .int x5)]) hx hb dX8_share_97 rfl hl (by decide) rfl (fun ls hl => ?_)
      obtain ⟨v98, ev98⟩ : ∃ z : Int32, z = x5 + (1 : Int32) := ⟨_, rfl⟩
      have h := h v98 ev98
      refine lv_iinc (v := v98) (lv' := [(5, .int v98), (3, .long v97), (6, .int r39), (0, .ref (a 0)), (1, .int x1), (2, .int x2)]) hx hb dX8_share_98 hl (k := 5) rfl (by rw [ev98]; rfl) (by decide) rfl (fun ls hl => ?_)
      refine lv_goto (tgt := 26) hx hb dX8_share_101 (by decide) ?_
      exact hK26 _ _ h H locs ls hB (lv_sub hl [3, 4, 5, 1, 0] rfl)
    · have h := h.2 c51
      refine lv_lconst (v := (0 : Int64)) hx hb dX8_share_54 (by decide) ?_
      refine lv_goto (tgt := 96) hx hb dX8_share_55 (by decide) ?_
      refine lv_ladd hx hb dX8_share_96 ?_
      refine lv_topl (fun v97 ev97 => ?_)
      have h := h v97 ev97
      refine lv_lstore_n (lv' := [(3, .long v97), (6, .int r39), (0, .ref (a 0)), (1, .int x1), (2, .int x2), (5, .int x5)]) hx hb dX8_share_97 rfl hl (by decide) rfl (fun ls hl => ?_)
      obtain ⟨v98, ev98⟩ : ∃ z : Int32, z = x5 + (1 : Int32) := ⟨_, rfl⟩
      have h := h v98 ev98
      refine lv_iinc (v := v98) (lv' := [(5, .int v98), (3, .long v97), (6, .int r39), (0, .ref (a 0)), (1, .int x1), (2, .int x2)]) hx hb dX8_share_98 hl (k := 5) rfl (by rw [ev98]; rfl) (by decide) rfl (fun ls hl => ?_)
      refine lv_goto (tgt := 26) hx hb dX8_share_101 (by decide) ?_
      exact hK26 _ _ h H locs ls hB (lv_sub hl [3, 4, 5, 1, 0] rfl)
def zp_X8_share_26  (P : Int64 → zz_I → zz_L → Prop) (x1 : Int32) (x2 : Int32) (x3 : Int64) (x5 : Int32) (I : zz_I) (L : zz_L) : Prop := ∃ (Inv : Int64 → Int32 → Prop) (μ : Int64 → Int32 → Nat), Inv x3 x5 ∧ ∀ (y3 : Int64) (y5 : Int32), Inv y3 y5 → zp_X8_share_26b  (fun z3 z5 => Inv z3 z5 ∧ μ z3 z5 < μ y3 y5) P x1 x2 y3 y5 I L
set_option maxHeartbeats 4000000 in
set_option maxRecDepth 100000 in
theorem zq_X8_share_26 {p : Program} {l : Launch} {e : Env} {s : State} {m : MethodId} {args : Array Value} {below : List Frame} {meth : Method} {c : Code} {D : va_G} {ca : Nat → ClassId} {A : Nat → Prop} {a : Nat → Nat}  {P : Int64 → zz_I → zz_L → Prop} {I : zz_I} {L : zz_L} {x1 : Int32} {x2 : Int32} {x3 : Int64} {x5 : Int32} (X : zz_X p s m meth c cX8_share RX8 (some .long) 7) (hA : ∀ q, s.heap.size ≤ q → A q)   (h : zp_X8_share_26  P x1 x2 x3 x5 I L) : zz_Go p l e ({ frames := 7, cells := 0, slots := 0, locals := 169 } : Room) s m args below meth c 0 0 (MQ below (zz_Ql D ca zz_dM A a P) args s 0 0 A) D ca zz_dM A 7 26 a [] [(0, .ref (a 0)), (1, .int x1), (2, .int x2), (3, .long x3), (5, .int x5)] I L := by
  unfold zp_X8_share_26 at h
  obtain ⟨Inv, μ, hv0, hs⟩ := h
  have key : ∀ (n9 : Nat) (y3 : Int64) (y5 : Int32), μ y3 y5 < n9 → Inv y3 y5 → zz_Go p l e ({ frames := 7, cells := 0, slots := 0, locals := 169 } : Room) s m args below meth c 0 0 (MQ below (zz_Ql D ca zz_dM A a P) args s 0 0 A) D ca zz_dM A 7 26 a [] [(0, .ref (a 0)), (1, .int x1), (2, .int x2), (3, .long y3), (5, .int y5)] I L := by
    intro n9
    induction n9 with
    | zero => intro y3 y5 hn; exact absurd hn (Nat.not_lt_zero _)
    | succ n9 ih =>
      intro y3 y5 hn hi
      exact zq_X8_share_26b (K26 := (fun z3 z5 => Inv z3 z5 ∧ μ z3 z5 < μ y3 y5)) X hA   (fun z3 z5 hz => ih z3 z5 (Nat.lt_of_lt_of_le hz.2 (Nat.le_of_lt_succ hn)) hz.1) (hs y3 y5 hi)
  exact key _ x3 x5 (Nat.lt_succ_self _) hv0
def zp_X8_share (x1 : Int32) (x2 : Int32) (P : Int64 → zz_I → zz_L → Prop) (I : zz_I) (L : zz_L) : Prop := ∀ I2 : zz_I, I2 = zz_up I 0 0 (0 : Int32) → (zp_X8_noWord x1 (fun r7 => (r7 = 0 → zp_X8_weighSets  (fun I18 L18 => zp_X8_share_26 P x1 x2 (0 : Int64) (0 : Int32) I18 L18) I2 L) ∧ (¬ r7 = 0 → P (-1 : Int64) I2 L)) I2 L)
set_option maxHeartbeats 4000000 in
set_option maxRecDepth 100000 in
theorem zq_X8_share {p : Program} {l : Launch} {e : Env} {s : State} {m : MethodId} {args : Array Value} {below : List Frame} {meth : Method} {c : Code} {D : va_G} {ca : Nat → ClassId} {A : Nat → Prop} {a : Nat → Nat}  {P : Int64 → zz_I → zz_L → Prop} {I : zz_I} {L : zz_L} {x1 : Int32} {x2 : Int32} (X : zz_X p s m meth c cX8_share RX8 (some .long) 7) (hA : ∀ q, s.heap.size ≤ q → A q)   (h : zp_X8_share x1 x2 P I L) : zz_Go p l e ({ frames := 7, cells := 0, slots := 0, locals := 169 } : Room) s m args below meth c 0 0 (MQ below (zz_Ql D ca zz_dM A a P) args s 0 0 A) D ca zz_dM A 7 0 a [] [(0, .ref (a 0)), (1, .int x1), (2, .int x2)] I L := by
  obtain ⟨hx, hb, hml, hown, zw, hr, hlocks⟩ := id X
  intro H locs ls hB hl
  unfold zp_X8_share at h
  refine lv_aload_n hx hb dX8_share_0 rfl (lv_at hl 0 rfl) ?_
  refine lv_iconst (v := (0 : Int32)) hx hb dX8_share_1 (by decide) ?_
  refine zz_puti hx hb hown zw hB zP_X8_94 zdM_0 rfl dX8_share_2 (fun H locs hB => ?_)
  obtain ⟨I2, eI2⟩ : ∃ z : zz_I, z = zz_up I 0 0 (0 : Int32) := ⟨_, rfl⟩
  rw [← eI2] at hB
  have h := h I2 eI2
  refine lv_aload_n hx hb dX8_share_5 rfl (lv_at hl 0 rfl) ?_
  refine lv_iload_n hx hb dX8_share_6 rfl (lv_at hl 1 rfl) ?_
  refine zz_goip hB hA (zz_runV (As := [.int x1]) (rest := []) hx hb hml hown zw hB zM_X8_148 (zc_X8_noWord l D ca a I2 L H.size h) zdM_0 rfl rfl hl.1 rfl (Nat.le_of_ble_eq_true rfl) rfl rfl ⟨Nat.le_of_ble_eq_true rfl, Nat.le_of_ble_eq_true rfl⟩ dX8_share_7 ⟨Nat.le_of_ble_eq_true rfl, Nat.le_of_ble_eq_true rfl⟩) (fun r7 H locs h hB => ?_)
  refine lv_if_eq (tgt := 17) hx hb dX8_share_10 (by decide) (fun c10 => ?_) (fun c10 => ?_)
  · have h := h.1 c10
    refine lv_aload_n hx hb dX8_share_17 rfl (lv_at hl 0 rfl) ?_
    refine zz_gov hB hA (zz_runV (As := []) (rest := []) hx hb hml hown zw hB zM_X8_281 (zc_X8_weighSets l D ca a I2 L H.size h) zdM_0 rfl rfl hl.1 rfl (Nat.le_of_ble_eq_true rfl) rfl rfl ⟨Nat.le_of_ble_eq_true rfl, Nat.le_of_ble_eq_true rfl⟩ dX8_share_18 ⟨Nat.le_of_ble_eq_true rfl, Nat.le_of_ble_eq_true rfl⟩) (fun I18 L18 H locs h hB => ?_)
    refine lv_lconst (v := (0 : Int64)) hx hb dX8_share_21 (by decide) ?_
    refine lv_lstore_n (lv' := [(3, .long (0 : Int64)), (0, .ref (a 0)), (1, .int x1), (2, .int x2)]) hx hb dX8_share_22 rfl hl (by decide) rfl (fun ls hl => ?_)
    refine lv_iconst (v := (0 : Int32)) hx hb dX8_share_23 (by decide) ?_
    refine lv_istore (lv' := [(5, .int (0 : Int32)), (3, .long (0 : Int64)), (0, .ref (a 0)), (1, .int x1), (2, .int x2)]) hx hb dX8_share_24 hl (by decide) rfl (fun ls hl => ?_)
    exact zq_X8_share_26 X hA  h H locs ls hB (lv_sub hl [2, 3, 4, 1, 0] rfl)
  · have h := h.2 c10
    refine lv_ldc2 (v := (-1 : Int64)) hx hb hown (zz_W_use zw zk_X8_250 rfl) dX8_share_13 ?_
    exact zz_lret hx hb hr hlocks hB h dX8_share_16
theorem zc_X8_share (l : Launch) (D : va_G) (ca : Nat → ClassId) (a : Nat → Nat) (I : zz_I) (L : zz_L) (sz : Nat) {x1 : Int32} {x2 : Int32} {P : Int64 → zz_I → zz_L → Prop}  (h : zp_X8_share x1 x2 P I L) : Met l yX8_share [.code yX8_share cX8_share 7 (some .long)] ({ frames := 7, cells := 0, slots := 0, locals := 169 } : Room) (zz_Pre D ca zz_dM [.ref (a 0), .int x1, .int x2] a I L sz) (zz_Ql D ca zz_dM (zz_A ca zz_dM a I L sz) a P) 0 0 (zz_A ca zz_dM a I L sz) :=
  zz_start (by decide) (Nat.le_of_ble_eq_true rfl) (fun p e s m below meth c X hsz hA => zq_X8_share X hA  h)
def zp_X8_stands (x1 : Int32) (x2 : Int32) (P : Int64 → zz_I → zz_L → Prop) (I : zz_I) (L : zz_L) : Prop := ∀ I2 : zz_I, I2 = zz_up I 0 0 (0 : Int32) → (zp_X8_noUnit x1 (fun r7 => (r7 = 0 → zp_X8_in (x2.toInt64) (0 : Int64) (6 : Int64) (fun r23 => (r23 = 0 → P (-2 : Int64) I2 L) ∧ (¬ r23 = 0 → zp_X8_standing 14 x1 x2 (fun r36 I36 L36 => P r36 I36 L36) I2 L)) I2 L) ∧ (¬ r7 = 0 → P (-1 : Int64) I2 L)) I2 L)
set_option maxHeartbeats 4000000 in
set_option maxRecDepth 100000 in
theorem zq_X8_stands {p : Program} {l : Launch} {e : Env} {s : State} {m : MethodId} {args : Array Value} {below : List Frame} {meth : Method} {c : Code} {D : va_G} {ca : Nat → ClassId} {A : Nat → Prop} {a : Nat → Nat}  {P : Int64 → zz_I → zz_L → Prop} {I : zz_I} {L : zz_L} {x1 : Int32} {x2 : Int32} (X : zz_X p s m meth c cX8_stands RX8 (some .long) 3) (hA : ∀ q, s.heap.size ≤ q → A q)   (h : zp_X8_stands x1 x2 P I L) : zz_Go p l e ({ frames := 6, cells := 0, slots := 0, locals := 156 } : Room) s m args below meth c 0 0 (MQ below (zz_Ql D ca zz_dM A a P) args s 0 0 A) D ca zz_dM A 3 0 a [] [(0, .ref (a 0)), (1, .int x1), (2, .int x2)] I L := by
  obtain ⟨hx, hb, hml, hown, zw, hr, hlocks⟩ := id X
  intro H locs ls hB hl
  unfold zp_X8_stands at h
  refine lv_aload_n hx hb dX8_stands_0 rfl (lv_at hl 0 rfl) ?_
  refine lv_iconst (v := (0 : Int32)) hx hb dX8_stands_1 (by decide) ?_
  refine zz_puti hx hb hown zw hB zP_X8_94 zdM_0 rfl dX8_stands_2 (fun H locs hB => ?_)
  obtain ⟨I2, eI2⟩ : ∃ z : zz_I, z = zz_up I 0 0 (0 : Int32) := ⟨_, rfl⟩
  rw [← eI2] at hB
  have h := h I2 eI2
  refine lv_aload_n hx hb dX8_stands_5 rfl (lv_at hl 0 rfl) ?_
  refine lv_iload_n hx hb dX8_stands_6 rfl (lv_at hl 1 rfl) ?_
  refine zz_goip hB hA (zz_runV (As := [.int x1]) (rest := []) hx hb hml hown zw hB zM_X8_155 (zc_X8_noUnit l D ca a I2 L H.size h) zdM_0 rfl rfl hl.1 rfl (Nat.le_of_ble_eq_true rfl) rfl rfl ⟨Nat.le_of_ble_eq_true rfl, Nat.le_of_ble_eq_true rfl⟩ dX8_stands_7 ⟨Nat.le_of_ble_eq_true rfl, Nat.le_of_ble_eq_true rfl⟩) (fun r7 H locs h hB => ?_)
  refine lv_if_eq (tgt := 17) hx hb dX8_stands_10 (by decide) (fun c10 => ?_) (fun c10 => ?_)
  · have h := h.1 c10
    refine lv_iload_n hx hb dX8_stands_17 rfl (lv_at hl 2 rfl) ?_
    refine lv_i2l (v := x2.toInt64) hx hb dX8_stands_18 rfl ?_
    refine lv_lconst (v := (0 : Int64)) hx hb dX8_stands_19 (by decide) ?_
    refine lv_ldc2 (v := (6 : Int64)) hx hb hown (zz_W_use zw zk_X8_174 rfl) dX8_stands_20 ?_
    refine zz_goip hB hA (zz_runS (As := [.long (x2.toInt64), .long (0 : Int64), .long (6 : Int64)]) (rest := []) hx hb hml hown zw hB zM_X8_101 (zc_X8_in l D ca a I2 L H.size h) rfl hl.1 rfl (Nat.le_of_ble_eq_true rfl) rfl rfl ⟨Nat.le_of_ble_eq_true rfl, Nat.le_of_ble_eq_true rfl⟩ dX8_stands_23 ⟨Nat.le_of_ble_eq_true rfl, Nat.le_of_ble_eq_true rfl⟩) (fun r23 H locs h hB => ?_)
    refine lv_if_eq (tgt := 42) hx hb dX8_stands_26 (by decide) (fun c26 => ?_) (fun c26 => ?_)
    · have h := h.1 c26
      refine lv_ldc2 (v := (-2 : Int64)) hx hb hown (zz_W_use zw zk_X8_255 rfl) dX8_stands_42 ?_
      exact zz_lret hx hb hr hlocks hB h dX8_stands_45
    · have h := h.2 c26
      refine lv_aload_n hx hb dX8_stands_29 rfl (lv_at hl 0 rfl) ?_
      refine lv_aload_n hx hb dX8_stands_30 rfl (lv_at hl 0 rfl) ?_
      refine zz_getr (k' := 14) hx hb hown zw hB zF_X8_50 zdM_0 rfl rfl dX8_stands_31 ?_
      refine lv_iload_n hx hb dX8_stands_34 rfl (lv_at hl 1 rfl) ?_
      refine lv_iload_n hx hb dX8_stands_35 rfl (lv_at hl 2 rfl) ?_
      refine zz_gol hB hA (zz_runV (As := [.ref (a 14), .int x1, .int x2]) (rest := []) hx hb hml hown zw hB zM_X8_252 (zc_X8_standing l D ca a I2 L H.size zdM_14 h) zdM_0 rfl rfl hl.1 rfl (Nat.le_of_ble_eq_true rfl) rfl rfl ⟨Nat.le_of_ble_eq_true rfl, Nat.le_of_ble_eq_true rfl⟩ dX8_stands_36 ⟨Nat.le_of_ble_eq_true rfl, Nat.le_of_ble_eq_true rfl⟩) (fun r36 I36 L36 H locs h hB => ?_)
      refine lv_goto (tgt := 45) hx hb dX8_stands_39 (by decide) ?_
      exact zz_lret hx hb hr hlocks hB h dX8_stands_45
  · have h := h.2 c10
    refine lv_ldc2 (v := (-1 : Int64)) hx hb hown (zz_W_use zw zk_X8_250 rfl) dX8_stands_13 ?_
    exact zz_lret hx hb hr hlocks hB h dX8_stands_16
theorem zc_X8_stands (l : Launch) (D : va_G) (ca : Nat → ClassId) (a : Nat → Nat) (I : zz_I) (L : zz_L) (sz : Nat) {x1 : Int32} {x2 : Int32} {P : Int64 → zz_I → zz_L → Prop}  (h : zp_X8_stands x1 x2 P I L) : Met l yX8_stands [.code yX8_stands cX8_stands 3 (some .long)] ({ frames := 6, cells := 0, slots := 0, locals := 156 } : Room) (zz_Pre D ca zz_dM [.ref (a 0), .int x1, .int x2] a I L sz) (zz_Ql D ca zz_dM (zz_A ca zz_dM a I L sz) a P) 0 0 (zz_A ca zz_dM a I L sz) :=
  zz_start (by decide) (Nat.le_of_ble_eq_true rfl) (fun p e s m below meth c X hsz hA => zq_X8_stands X hA  h)
def zp_X8_stone_90b (K90 : Int32 → zz_I → zz_L → Prop) (P : Int32 → zz_I → zz_L → Prop) (x1 : Int32) (I : zz_I) (L : zz_L) : Prop := ((8 : Int32) ≤ x1 → ∀ I140 : zz_I, I140 = zz_up I 0 21 (0 : Int32) → (vp_in (0 : Int32) 2 ∧ (∀ I149 : zz_I, I149 = zz_up I140 18 (0 : Int32).toNatClampNeg (vp_nar .boolean (0 : Int32)) → (vp_in (1 : Int32) 2 ∧ (∀ I156 : zz_I, I156 = zz_up I149 18 (1 : Int32).toNatClampNeg (vp_nar .boolean (0 : Int32)) → (vp_in (0 : Int32) 43 ∧ (P (I156 14 (0 : Int32).toNatClampNeg) I156 L))))))) ∧ (¬ (8 : Int32) ≤ x1 → vp_in x1 8 ∧ (vp_in x1 8 ∧ (∀ I107 : zz_I, I107 = zz_up I 3 x1.toNatClampNeg (I 8 x1.toNatClampNeg) → (vp_in x1 8 ∧ (vp_in x1 8 ∧ (∀ I119 : zz_I, I119 = zz_up I107 5 x1.toNatClampNeg (I107 10 x1.toNatClampNeg) → (vp_in x1 8 ∧ (vp_in x1 8 ∧ (∀ I131 : zz_I, I131 = zz_up I119 6 x1.toNatClampNeg (I119 11 x1.toNatClampNeg) → (∀ v132 : Int32, v132 = x1 + (1 : Int32) → (K90 v132 I131 L)))))))))))
set_option maxHeartbeats 4000000 in
set_option maxRecDepth 100000 in
theorem zq_X8_stone_90b {p : Program} {l : Launch} {e : Env} {s : State} {m : MethodId} {args : Array Value} {below : List Frame} {meth : Method} {c : Code} {D : va_G} {ca : Nat → ClassId} {A : Nat → Prop} {a : Nat → Nat} {K90 : Int32 → zz_I → zz_L → Prop} {P : Int32 → zz_I → zz_L → Prop} {I : zz_I} {L : zz_L} {x1 : Int32} (X : zz_X p s m meth c cX8_stone RX8 (some .int) 2) (hA : ∀ q, s.heap.size ≤ q → A q)  (hK90 : ∀ (y1 : Int32) (I8 : zz_I) (L8 : zz_L), K90 y1 I8 L8 → zz_Go p l e ({ frames := 5, cells := 0, slots := 0, locals := 112 } : Room) s m args below meth c 0 0 (MQ below (zz_Qi D ca zz_dM A a P) args s 0 0 A) D ca zz_dM A 2 90 a [] [(0, .ref (a 0)), (1, .int y1)] I8 L8) (h : zp_X8_stone_90b K90 P x1 I L) : zz_Go p l e ({ frames := 5, cells := 0, slots := 0, locals := 112 } : Room) s m args below meth c 0 0 (MQ below (zz_Qi D ca zz_dM A a P) args s 0 0 A) D ca zz_dM A 2 90 a [] [(0, .ref (a 0)), (1, .int x1)] I L := by
  obtain ⟨hx, hb, hml, hown, zw, hr, hlocks⟩ := id X
  intro H locs ls hB hl
  unfold zp_X8_stone_90b at h
  refine lv_iload_n hx hb dX8_stone_90 rfl (lv_at hl 1 rfl) ?_
  refine lv_bipush (v := (8 : Int32)) hx hb dX8_stone_91 (by decide) ?_
  refine lv_icmp_ge (tgt := 138) hx hb dX8_stone_93 (by decide) (fun c93 => ?_) (fun c93 => ?_)
  · have h := h.1 c93
    refine lv_aload_n hx hb dX8_stone_138 rfl (lv_at hl 0 rfl) ?_
    refine lv_iconst (v := (0 : Int32)) hx hb dX8_stone_139 (by decide) ?_
    refine zz_puti hx hb hown zw hB zP_X8_145 zdM_0 rfl dX8_stone_140 (fun H locs hB => ?_)
    obtain ⟨I140, eI140⟩ : ∃ z : zz_I, z = zz_up I 0 21 (0 : Int32) := ⟨_, rfl⟩
    rw [← eI140] at hB
    have h := h I140 eI140
    refine lv_aload_n hx hb dX8_stone_143 rfl (lv_at hl 0 rfl) ?_
    refine zz_getr (k' := 18) hx hb hown zw hB zF_X8_62 zdM_0 rfl rfl dX8_stone_144 ?_
    refine lv_iconst (v := (0 : Int32)) hx hb dX8_stone_147 (by decide) ?_
    refine lv_iconst (v := (0 : Int32)) hx hb dX8_stone_148 (by decide) ?_
    obtain ⟨hi149, h⟩ := h
    refine zz_zast hx hb hB zdM_18 hi149 dX8_stone_149 (fun H locs hB => ?_)
    obtain ⟨I149, eI149⟩ : ∃ z : zz_I, z = zz_up I140 18 (0 : Int32).toNatClampNeg (vp_nar .boolean (0 : Int32)) := ⟨_, rfl⟩
    rw [← eI149] at hB
    have h := h I149 eI149
    refine lv_aload_n hx hb dX8_stone_150 rfl (lv_at hl 0 rfl) ?_
    refine zz_getr (k' := 18) hx hb hown zw hB zF_X8_62 zdM_0 rfl rfl dX8_stone_151 ?_
    refine lv_iconst (v := (1 : Int32)) hx hb dX8_stone_154 (by decide) ?_
    refine lv_iconst (v := (0 : Int32)) hx hb dX8_stone_155 (by decide) ?_
    obtain ⟨hi156, h⟩ := h
    refine zz_zast hx hb hB zdM_18 hi156 dX8_stone_156 (fun H locs hB => ?_)
    obtain ⟨I156, eI156⟩ : ∃ z : zz_I, z = zz_up I149 18 (1 : Int32).toNatClampNeg (vp_nar .boolean (0 : Int32)) := ⟨_, rfl⟩
    rw [← eI156] at hB
    have h := h I156 eI156
    refine lv_aload_n hx hb dX8_stone_157 rfl (lv_at hl 0 rfl) ?_
    refine zz_getr (k' := 14) hx hb hown zw hB zF_X8_50 zdM_0 rfl rfl dX8_stone_158 ?_
    refine lv_iconst (v := (0 : Int32)) hx hb dX8_stone_161 (by decide) ?_
    obtain ⟨hi162, h⟩ := h
    refine zz_iald hx hb hB zdM_14 hi162 dX8_stone_162 ?_
    exact zz_iret hx hb hr hlocks hB h dX8_stone_163
  · have h := h.2 c93
    refine lv_aload_n hx hb dX8_stone_96 rfl (lv_at hl 0 rfl) ?_
    refine zz_getr (k' := 3) hx hb hown zw hB zF_X8_16 zdM_0 rfl rfl dX8_stone_97 ?_
    refine lv_iload_n hx hb dX8_stone_100 rfl (lv_at hl 1 rfl) ?_
    refine lv_aload_n hx hb dX8_stone_101 rfl (lv_at hl 0 rfl) ?_
    refine zz_getr (k' := 8) hx hb hown zw hB zF_X8_31 zdM_0 rfl rfl dX8_stone_102 ?_
    refine lv_iload_n hx hb dX8_stone_105 rfl (lv_at hl 1 rfl) ?_
    obtain ⟨hi106, h⟩ := h
    refine zz_iald hx hb hB zdM_8 hi106 dX8_stone_106 ?_
    obtain ⟨hi107, h⟩ := h
    refine zz_iast hx hb hB zdM_3 hi107 dX8_stone_107 (fun H locs hB => ?_)
    obtain ⟨I107, eI107⟩ : ∃ z : zz_I, z = zz_up I 3 x1.toNatClampNeg (I 8 x1.toNatClampNeg) := ⟨_, rfl⟩
    rw [← eI107] at hB
    have h := h I107 eI107
    refine lv_aload_n hx hb dX8_stone_108 rfl (lv_at hl 0 rfl) ?_
    refine zz_getr (k' := 5) hx hb hown zw hB zF_X8_22 zdM_0 rfl rfl dX8_stone_109 ?_
    refine lv_iload_n hx hb dX8_stone_112 rfl (lv_at hl 1 rfl) ?_
    refine lv_aload_n hx hb dX8_stone_113 rfl (lv_at hl 0 rfl) ?_
    refine zz_getr (k' := 10) hx hb hown zw hB zF_X8_37 zdM_0 rfl rfl dX8_stone_114 ?_
    refine lv_iload_n hx hb dX8_stone_117 rfl (lv_at hl 1 rfl) ?_
    obtain ⟨hi118, h⟩ := h
    refine zz_iald hx hb hB zdM_10 hi118 dX8_stone_118 ?_
    obtain ⟨hi119, h⟩ := h
    refine zz_iast hx hb hB zdM_5 hi119 dX8_stone_119 (fun H locs hB => ?_)
    obtain ⟨I119, eI119⟩ : ∃ z : zz_I, z = zz_up I107 5 x1.toNatClampNeg (I107 10 x1.toNatClampNeg) := ⟨_, rfl⟩
    rw [← eI119] at hB
    have h := h I119 eI119
    refine lv_aload_n hx hb dX8_stone_120 rfl (lv_at hl 0 rfl) ?_
    refine zz_getr (k' := 6) hx hb hown zw hB zF_X8_25 zdM_0 rfl rfl dX8_stone_121 ?_
    refine lv_iload_n hx hb dX8_stone_124 rfl (lv_at hl 1 rfl) ?_
    refine lv_aload_n hx hb dX8_stone_125 rfl (lv_at hl 0 rfl) ?_
    refine zz_getr (k' := 11) hx hb hown zw hB zF_X8_40 zdM_0 rfl rfl dX8_stone_126 ?_
    refine lv_iload_n hx hb dX8_stone_129 rfl (lv_at hl 1 rfl) ?_
    obtain ⟨hi130, h⟩ := h
    refine zz_iald hx hb hB zdM_11 hi130 dX8_stone_130 ?_
    obtain ⟨hi131, h⟩ := h
    refine zz_iast hx hb hB zdM_6 hi131 dX8_stone_131 (fun H locs hB => ?_)
    obtain ⟨I131, eI131⟩ : ∃ z : zz_I, z = zz_up I119 6 x1.toNatClampNeg (I119 11 x1.toNatClampNeg) := ⟨_, rfl⟩
    rw [← eI131] at hB
    have h := h I131 eI131
    obtain ⟨v132, ev132⟩ : ∃ z : Int32, z = x1 + (1 : Int32) := ⟨_, rfl⟩
    have h := h v132 ev132
    refine lv_iinc (v := v132) (lv' := [(1, .int v132), (0, .ref (a 0))]) hx hb dX8_stone_132 hl (k := 1) rfl (by rw [ev132]; rfl) (by decide) rfl (fun ls hl => ?_)
    refine lv_goto (tgt := 90) hx hb dX8_stone_135 (by decide) ?_
    exact hK90 _ _ _ h H locs ls hB (lv_sub hl [1, 0] rfl)
def zp_X8_stone_90  (P : Int32 → zz_I → zz_L → Prop) (x1 : Int32) (I : zz_I) (L : zz_L) : Prop := ∃ (Inv : Int32 → zz_I → zz_L → Prop) (μ : Int32 → zz_I → zz_L → Nat), Inv x1 I L ∧ ∀ (y1 : Int32) (I8 : zz_I) (L8 : zz_L), Inv y1 I8 L8 → zp_X8_stone_90b  (fun z1 I7 L7 => Inv z1 I7 L7 ∧ μ z1 I7 L7 < μ y1 I8 L8) P y1 I8 L8
set_option maxHeartbeats 4000000 in
set_option maxRecDepth 100000 in
theorem zq_X8_stone_90 {p : Program} {l : Launch} {e : Env} {s : State} {m : MethodId} {args : Array Value} {below : List Frame} {meth : Method} {c : Code} {D : va_G} {ca : Nat → ClassId} {A : Nat → Prop} {a : Nat → Nat}  {P : Int32 → zz_I → zz_L → Prop} {I : zz_I} {L : zz_L} {x1 : Int32} (X : zz_X p s m meth c cX8_stone RX8 (some .int) 2) (hA : ∀ q, s.heap.size ≤ q → A q)   (h : zp_X8_stone_90  P x1 I L) : zz_Go p l e ({ frames := 5, cells := 0, slots := 0, locals := 112 } : Room) s m args below meth c 0 0 (MQ below (zz_Qi D ca zz_dM A a P) args s 0 0 A) D ca zz_dM A 2 90 a [] [(0, .ref (a 0)), (1, .int x1)] I L := by
  unfold zp_X8_stone_90 at h
  obtain ⟨Inv, μ, hv0, hs⟩ := h
  have key : ∀ (n9 : Nat) (y1 : Int32) (I8 : zz_I) (L8 : zz_L), μ y1 I8 L8 < n9 → Inv y1 I8 L8 → zz_Go p l e ({ frames := 5, cells := 0, slots := 0, locals := 112 } : Room) s m args below meth c 0 0 (MQ below (zz_Qi D ca zz_dM A a P) args s 0 0 A) D ca zz_dM A 2 90 a [] [(0, .ref (a 0)), (1, .int y1)] I8 L8 := by
    intro n9
    induction n9 with
    | zero => intro y1 I8 L8 hn; exact absurd hn (Nat.not_lt_zero _)
    | succ n9 ih =>
      intro y1 I8 L8 hn hi
      exact zq_X8_stone_90b (K90 := (fun z1 I7 L7 => Inv z1 I7 L7 ∧ μ z1 I7 L7 < μ y1 I8 L8)) X hA   (fun z1 I7 L7 hz => ih z1 I7 L7 (Nat.lt_of_lt_of_le hz.2 (Nat.le_of_lt_succ hn)) hz.1) (hs y1 I8 L8 hi)
  exact key _ x1 I L (Nat.lt_succ_self _) hv0
def zp_X8_stone_64b (K64 : Int32 → zz_I → zz_L → Prop) (P : Int32 → zz_I → zz_L → Prop) (x1 : Int32) (I : zz_I) (L : zz_L) : Prop := ((40 : Int32) ≤ x1 → zp_X8_stone_90 P (0 : Int32) I L) ∧ (¬ (40 : Int32) ≤ x1 → vp_in x1 40 ∧ (vp_in x1 40 ∧ (∀ I81 : zz_I, I81 = zz_up I 4 x1.toNatClampNeg (I 9 x1.toNatClampNeg) → (∀ v82 : Int32, v82 = x1 + (1 : Int32) → (K64 v82 I81 L)))))
set_option maxHeartbeats 4000000 in
set_option maxRecDepth 100000 in
theorem zq_X8_stone_64b {p : Program} {l : Launch} {e : Env} {s : State} {m : MethodId} {args : Array Value} {below : List Frame} {meth : Method} {c : Code} {D : va_G} {ca : Nat → ClassId} {A : Nat → Prop} {a : Nat → Nat} {K64 : Int32 → zz_I → zz_L → Prop} {P : Int32 → zz_I → zz_L → Prop} {I : zz_I} {L : zz_L} {x1 : Int32} (X : zz_X p s m meth c cX8_stone RX8 (some .int) 2) (hA : ∀ q, s.heap.size ≤ q → A q)  (hK64 : ∀ (y1 : Int32) (I8 : zz_I) (L8 : zz_L), K64 y1 I8 L8 → zz_Go p l e ({ frames := 5, cells := 0, slots := 0, locals := 112 } : Room) s m args below meth c 0 0 (MQ below (zz_Qi D ca zz_dM A a P) args s 0 0 A) D ca zz_dM A 2 64 a [] [(0, .ref (a 0)), (1, .int y1)] I8 L8) (h : zp_X8_stone_64b K64 P x1 I L) : zz_Go p l e ({ frames := 5, cells := 0, slots := 0, locals := 112 } : Room) s m args below meth c 0 0 (MQ below (zz_Qi D ca zz_dM A a P) args s 0 0 A) D ca zz_dM A 2 64 a [] [(0, .ref (a 0)), (1, .int x1)] I L := by
  obtain ⟨hx, hb, hml, hown, zw, hr, hlocks⟩ := id X
  intro H locs ls hB hl
  unfold zp_X8_stone_64b at h
  refine lv_iload_n hx hb dX8_stone_64 rfl (lv_at hl 1 rfl) ?_
  refine lv_bipush (v := (40 : Int32)) hx hb dX8_stone_65 (by decide) ?_
  refine lv_icmp_ge (tgt := 88) hx hb dX8_stone_67 (by decide) (fun c67 => ?_) (fun c67 => ?_)
  · have h := h.1 c67
    refine lv_iconst (v := (0 : Int32)) hx hb dX8_stone_88 (by decide) ?_
    refine lv_istore_n (lv' := [(1, .int (0 : Int32)), (0, .ref (a 0))]) hx hb dX8_stone_89 rfl hl (by decide) rfl (fun ls hl => ?_)
    exact zq_X8_stone_90 X hA  h H locs ls hB (lv_sub hl [1, 0] rfl)
  · have h := h.2 c67
    refine lv_aload_n hx hb dX8_stone_70 rfl (lv_at hl 0 rfl) ?_
    refine zz_getr (k' := 4) hx hb hown zw hB zF_X8_19 zdM_0 rfl rfl dX8_stone_71 ?_
    refine lv_iload_n hx hb dX8_stone_74 rfl (lv_at hl 1 rfl) ?_
    refine lv_aload_n hx hb dX8_stone_75 rfl (lv_at hl 0 rfl) ?_
    refine zz_getr (k' := 9) hx hb hown zw hB zF_X8_34 zdM_0 rfl rfl dX8_stone_76 ?_
    refine lv_iload_n hx hb dX8_stone_79 rfl (lv_at hl 1 rfl) ?_
    obtain ⟨hi80, h⟩ := h
    refine zz_iald hx hb hB zdM_9 hi80 dX8_stone_80 ?_
    obtain ⟨hi81, h⟩ := h
    refine zz_iast hx hb hB zdM_4 hi81 dX8_stone_81 (fun H locs hB => ?_)
    obtain ⟨I81, eI81⟩ : ∃ z : zz_I, z = zz_up I 4 x1.toNatClampNeg (I 9 x1.toNatClampNeg) := ⟨_, rfl⟩
    rw [← eI81] at hB
    have h := h I81 eI81
    obtain ⟨v82, ev82⟩ : ∃ z : Int32, z = x1 + (1 : Int32) := ⟨_, rfl⟩
    have h := h v82 ev82
    refine lv_iinc (v := v82) (lv' := [(1, .int v82), (0, .ref (a 0))]) hx hb dX8_stone_82 hl (k := 1) rfl (by rw [ev82]; rfl) (by decide) rfl (fun ls hl => ?_)
    refine lv_goto (tgt := 64) hx hb dX8_stone_85 (by decide) ?_
    exact hK64 _ _ _ h H locs ls hB (lv_sub hl [1, 0] rfl)
def zp_X8_stone_64  (P : Int32 → zz_I → zz_L → Prop) (x1 : Int32) (I : zz_I) (L : zz_L) : Prop := ∃ (Inv : Int32 → zz_I → zz_L → Prop) (μ : Int32 → zz_I → zz_L → Nat), Inv x1 I L ∧ ∀ (y1 : Int32) (I8 : zz_I) (L8 : zz_L), Inv y1 I8 L8 → zp_X8_stone_64b  (fun z1 I7 L7 => Inv z1 I7 L7 ∧ μ z1 I7 L7 < μ y1 I8 L8) P y1 I8 L8
set_option maxHeartbeats 4000000 in
set_option maxRecDepth 100000 in
theorem zq_X8_stone_64 {p : Program} {l : Launch} {e : Env} {s : State} {m : MethodId} {args : Array Value} {below : List Frame} {meth : Method} {c : Code} {D : va_G} {ca : Nat → ClassId} {A : Nat → Prop} {a : Nat → Nat}  {P : Int32 → zz_I → zz_L → Prop} {I : zz_I} {L : zz_L} {x1 : Int32} (X : zz_X p s m meth c cX8_stone RX8 (some .int) 2) (hA : ∀ q, s.heap.size ≤ q → A q)   (h : zp_X8_stone_64  P x1 I L) : zz_Go p l e ({ frames := 5, cells := 0, slots := 0, locals := 112 } : Room) s m args below meth c 0 0 (MQ below (zz_Qi D ca zz_dM A a P) args s 0 0 A) D ca zz_dM A 2 64 a [] [(0, .ref (a 0)), (1, .int x1)] I L := by
  unfold zp_X8_stone_64 at h
  obtain ⟨Inv, μ, hv0, hs⟩ := h
  have key : ∀ (n9 : Nat) (y1 : Int32) (I8 : zz_I) (L8 : zz_L), μ y1 I8 L8 < n9 → Inv y1 I8 L8 → zz_Go p l e ({ frames := 5, cells := 0, slots := 0, locals := 112 } : Room) s m args below meth c 0 0 (MQ below (zz_Qi D ca zz_dM A a P) args s 0 0 A) D ca zz_dM A 2 64 a [] [(0, .ref (a 0)), (1, .int y1)] I8 L8 := by
    intro n9
    induction n9 with
    | zero => intro y1 I8 L8 hn; exact absurd hn (Nat.not_lt_zero _)
    | succ n9 ih =>
      intro y1 I8 L8 hn hi
      exact zq_X8_stone_64b (K64 := (fun z1 I7 L7 => Inv z1 I7 L7 ∧ μ z1 I7 L7 < μ y1 I8 L8)) X hA   (fun z1 I7 L7 hz => ih z1 I7 L7 (Nat.lt_of_lt_of_le hz.2 (Nat.le_of_lt_succ hn)) hz.1) (hs y1 I8 L8 hi)
  exact key _ x1 I L (Nat.lt_succ_self _) hv0
def zp_X8_stone_38b (K38 : Int32 → zz_I → zz_L → Prop) (P : Int32 → zz_I → zz_L → Prop) (x1 : Int32) (I : zz_I) (L : zz_L) : Prop := ((7 : Int32) ≤ x1 → zp_X8_stone_64 P (0 : Int32) I L) ∧ (¬ (7 : Int32) ≤ x1 → vp_in x1 7 ∧ (vp_in x1 7 ∧ (∀ I55 : zz_I, I55 = zz_up I 2 x1.toNatClampNeg (I 7 x1.toNatClampNeg) → (∀ v56 : Int32, v56 = x1 + (1 : Int32) → (K38 v56 I55 L)))))
set_option maxHeartbeats 4000000 in
set_option maxRecDepth 100000 in
theorem zq_X8_stone_38b {p : Program} {l : Launch} {e : Env} {s : State} {m : MethodId} {args : Array Value} {below : List Frame} {meth : Method} {c : Code} {D : va_G} {ca : Nat → ClassId} {A : Nat → Prop} {a : Nat → Nat} {K38 : Int32 → zz_I → zz_L → Prop} {P : Int32 → zz_I → zz_L → Prop} {I : zz_I} {L : zz_L} {x1 : Int32} (X : zz_X p s m meth c cX8_stone RX8 (some .int) 2) (hA : ∀ q, s.heap.size ≤ q → A q)  (hK38 : ∀ (y1 : Int32) (I8 : zz_I) (L8 : zz_L), K38 y1 I8 L8 → zz_Go p l e ({ frames := 5, cells := 0, slots := 0, locals := 112 } : Room) s m args below meth c 0 0 (MQ below (zz_Qi D ca zz_dM A a P) args s 0 0 A) D ca zz_dM A 2 38 a [] [(0, .ref (a 0)), (1, .int y1)] I8 L8) (h : zp_X8_stone_38b K38 P x1 I L) : zz_Go p l e ({ frames := 5, cells := 0, slots := 0, locals := 112 } : Room) s m args below meth c 0 0 (MQ below (zz_Qi D ca zz_dM A a P) args s 0 0 A) D ca zz_dM A 2 38 a [] [(0, .ref (a 0)), (1, .int x1)] I L := by
  obtain ⟨hx, hb, hml, hown, zw, hr, hlocks⟩ := id X
  intro H locs ls hB hl
  unfold zp_X8_stone_38b at h
  refine lv_iload_n hx hb dX8_stone_38 rfl (lv_at hl 1 rfl) ?_
  refine lv_bipush (v := (7 : Int32)) hx hb dX8_stone_39 (by decide) ?_
  refine lv_icmp_ge (tgt := 62) hx hb dX8_stone_41 (by decide) (fun c41 => ?_) (fun c41 => ?_)
  · have h := h.1 c41
    refine lv_iconst (v := (0 : Int32)) hx hb dX8_stone_62 (by decide) ?_
    refine lv_istore_n (lv' := [(1, .int (0 : Int32)), (0, .ref (a 0))]) hx hb dX8_stone_63 rfl hl (by decide) rfl (fun ls hl => ?_)
    exact zq_X8_stone_64 X hA  h H locs ls hB (lv_sub hl [1, 0] rfl)
  · have h := h.2 c41
    refine lv_aload_n hx hb dX8_stone_44 rfl (lv_at hl 0 rfl) ?_
    refine zz_getr (k' := 2) hx hb hown zw hB zF_X8_13 zdM_0 rfl rfl dX8_stone_45 ?_
    refine lv_iload_n hx hb dX8_stone_48 rfl (lv_at hl 1 rfl) ?_
    refine lv_aload_n hx hb dX8_stone_49 rfl (lv_at hl 0 rfl) ?_
    refine zz_getr (k' := 7) hx hb hown zw hB zF_X8_28 zdM_0 rfl rfl dX8_stone_50 ?_
    refine lv_iload_n hx hb dX8_stone_53 rfl (lv_at hl 1 rfl) ?_
    obtain ⟨hi54, h⟩ := h
    refine zz_iald hx hb hB zdM_7 hi54 dX8_stone_54 ?_
    obtain ⟨hi55, h⟩ := h
    refine zz_iast hx hb hB zdM_2 hi55 dX8_stone_55 (fun H locs hB => ?_)
    obtain ⟨I55, eI55⟩ : ∃ z : zz_I, z = zz_up I 2 x1.toNatClampNeg (I 7 x1.toNatClampNeg) := ⟨_, rfl⟩
    rw [← eI55] at hB
    have h := h I55 eI55
    obtain ⟨v56, ev56⟩ : ∃ z : Int32, z = x1 + (1 : Int32) := ⟨_, rfl⟩
    have h := h v56 ev56
    refine lv_iinc (v := v56) (lv' := [(1, .int v56), (0, .ref (a 0))]) hx hb dX8_stone_56 hl (k := 1) rfl (by rw [ev56]; rfl) (by decide) rfl (fun ls hl => ?_)
    refine lv_goto (tgt := 38) hx hb dX8_stone_59 (by decide) ?_
    exact hK38 _ _ _ h H locs ls hB (lv_sub hl [1, 0] rfl)
def zp_X8_stone_38  (P : Int32 → zz_I → zz_L → Prop) (x1 : Int32) (I : zz_I) (L : zz_L) : Prop := ∃ (Inv : Int32 → zz_I → zz_L → Prop) (μ : Int32 → zz_I → zz_L → Nat), Inv x1 I L ∧ ∀ (y1 : Int32) (I8 : zz_I) (L8 : zz_L), Inv y1 I8 L8 → zp_X8_stone_38b  (fun z1 I7 L7 => Inv z1 I7 L7 ∧ μ z1 I7 L7 < μ y1 I8 L8) P y1 I8 L8
set_option maxHeartbeats 4000000 in
set_option maxRecDepth 100000 in
theorem zq_X8_stone_38 {p : Program} {l : Launch} {e : Env} {s : State} {m : MethodId} {args : Array Value} {below : List Frame} {meth : Method} {c : Code} {D : va_G} {ca : Nat → ClassId} {A : Nat → Prop} {a : Nat → Nat}  {P : Int32 → zz_I → zz_L → Prop} {I : zz_I} {L : zz_L} {x1 : Int32} (X : zz_X p s m meth c cX8_stone RX8 (some .int) 2) (hA : ∀ q, s.heap.size ≤ q → A q)   (h : zp_X8_stone_38  P x1 I L) : zz_Go p l e ({ frames := 5, cells := 0, slots := 0, locals := 112 } : Room) s m args below meth c 0 0 (MQ below (zz_Qi D ca zz_dM A a P) args s 0 0 A) D ca zz_dM A 2 38 a [] [(0, .ref (a 0)), (1, .int x1)] I L := by
  unfold zp_X8_stone_38 at h
  obtain ⟨Inv, μ, hv0, hs⟩ := h
  have key : ∀ (n9 : Nat) (y1 : Int32) (I8 : zz_I) (L8 : zz_L), μ y1 I8 L8 < n9 → Inv y1 I8 L8 → zz_Go p l e ({ frames := 5, cells := 0, slots := 0, locals := 112 } : Room) s m args below meth c 0 0 (MQ below (zz_Qi D ca zz_dM A a P) args s 0 0 A) D ca zz_dM A 2 38 a [] [(0, .ref (a 0)), (1, .int y1)] I8 L8 := by
    intro n9
    induction n9 with
    | zero => intro y1 I8 L8 hn; exact absurd hn (Nat.not_lt_zero _)
    | succ n9 ih =>
      intro y1 I8 L8 hn hi
      exact zq_X8_stone_38b (K38 := (fun z1 I7 L7 => Inv z1 I7 L7 ∧ μ z1 I7 L7 < μ y1 I8 L8)) X hA   (fun z1 I7 L7 hz => ih z1 I7 L7 (Nat.lt_of_lt_of_le hz.2 (Nat.le_of_lt_succ hn)) hz.1) (hs y1 I8 L8 hi)
  exact key _ x1 I L (Nat.lt_succ_self _) hv0
def zp_X8_stone  (P : Int32 → zz_I → zz_L → Prop) (I : zz_I) (L : zz_L) : Prop := ∀ I2 : zz_I, I2 = zz_up I 0 0 (0 : Int32) → (zp_X8_readStone  (fun r6 I6 L6 => (r6 = (-9 : Int32) → zp_X8_lay 14 13 (fun I25 L25 => ∀ I33 : zz_I, I33 = zz_up I25 0 5 (I25 0 11) → (zp_X8_stone_38 P (0 : Int32) I33 L25)) I6 L6) ∧ (¬ r6 = (-9 : Int32) → P (-3 : Int32) I6 L6)) I2 L)
set_option maxHeartbeats 4000000 in
set_option maxRecDepth 100000 in
theorem zq_X8_stone {p : Program} {l : Launch} {e : Env} {s : State} {m : MethodId} {args : Array Value} {below : List Frame} {meth : Method} {c : Code} {D : va_G} {ca : Nat → ClassId} {A : Nat → Prop} {a : Nat → Nat}  {P : Int32 → zz_I → zz_L → Prop} {I : zz_I} {L : zz_L}  (X : zz_X p s m meth c cX8_stone RX8 (some .int) 2) (hA : ∀ q, s.heap.size ≤ q → A q)   (h : zp_X8_stone  P I L) : zz_Go p l e ({ frames := 5, cells := 0, slots := 0, locals := 112 } : Room) s m args below meth c 0 0 (MQ below (zz_Qi D ca zz_dM A a P) args s 0 0 A) D ca zz_dM A 2 0 a [] [(0, .ref (a 0))] I L := by
  obtain ⟨hx, hb, hml, hown, zw, hr, hlocks⟩ := id X
  intro H locs ls hB hl
  unfold zp_X8_stone at h
  refine lv_aload_n hx hb dX8_stone_0 rfl (lv_at hl 0 rfl) ?_
  refine lv_iconst (v := (0 : Int32)) hx hb dX8_stone_1 (by decide) ?_
  refine zz_puti hx hb hown zw hB zP_X8_94 zdM_0 rfl dX8_stone_2 (fun H locs hB => ?_)
  obtain ⟨I2, eI2⟩ : ∃ z : zz_I, z = zz_up I 0 0 (0 : Int32) := ⟨_, rfl⟩
  rw [← eI2] at hB
  have h := h I2 eI2
  refine lv_aload_n hx hb dX8_stone_5 rfl (lv_at hl 0 rfl) ?_
  refine zz_goi hB hA (zz_runV (As := []) (rest := []) hx hb hml hown zw hB zM_X8_137 (zc_X8_readStone l D ca a I2 L H.size h) zdM_0 rfl rfl hl.1 rfl (Nat.le_of_ble_eq_true rfl) rfl rfl ⟨Nat.le_of_ble_eq_true rfl, Nat.le_of_ble_eq_true rfl⟩ dX8_stone_6 ⟨Nat.le_of_ble_eq_true rfl, Nat.le_of_ble_eq_true rfl⟩) (fun r6 I6 L6 H locs h hB => ?_)
  refine lv_bipush (v := (-9 : Int32)) hx hb dX8_stone_9 (by decide) ?_
  refine lv_icmp_eq (tgt := 17) hx hb dX8_stone_11 (by decide) (fun c11 => ?_) (fun c11 => ?_)
  · have h := h.1 c11
    refine lv_aload_n hx hb dX8_stone_17 rfl (lv_at hl 0 rfl) ?_
    refine zz_getr (k' := 14) hx hb hown zw hB zF_X8_50 zdM_0 rfl rfl dX8_stone_18 ?_
    refine lv_aload_n hx hb dX8_stone_21 rfl (lv_at hl 0 rfl) ?_
    refine zz_getr (k' := 13) hx hb hown zw hB zF_X8_47 zdM_0 rfl rfl dX8_stone_22 ?_
    refine zz_gov hB hA (zz_runS (As := [.ref (a 14), .ref (a 13)]) (rest := []) hx hb hml hown zw hB zM_X8_141 (zc_X8_lay l D ca a I6 L6 H.size zdM_14 zdM_13 h) rfl hl.1 rfl (Nat.le_of_ble_eq_true rfl) rfl rfl ⟨Nat.le_of_ble_eq_true rfl, Nat.le_of_ble_eq_true rfl⟩ dX8_stone_25 ⟨Nat.le_of_ble_eq_true rfl, Nat.le_of_ble_eq_true rfl⟩) (fun I25 L25 H locs h hB => ?_)
    refine lv_aload_n hx hb dX8_stone_28 rfl (lv_at hl 0 rfl) ?_
    refine lv_aload_n hx hb dX8_stone_29 rfl (lv_at hl 0 rfl) ?_
    refine zz_geti hx hb hown zw hB zF_X8_113 zdM_0 rfl dX8_stone_30 ?_
    refine zz_puti hx hb hown zw hB zP_X8_98 zdM_0 rfl dX8_stone_33 (fun H locs hB => ?_)
    obtain ⟨I33, eI33⟩ : ∃ z : zz_I, z = zz_up I25 0 5 (I25 0 11) := ⟨_, rfl⟩
    rw [← eI33] at hB
    have h := h I33 eI33
    refine lv_iconst (v := (0 : Int32)) hx hb dX8_stone_36 (by decide) ?_
    refine lv_istore_n (lv' := [(1, .int (0 : Int32)), (0, .ref (a 0))]) hx hb dX8_stone_37 rfl hl (by decide) rfl (fun ls hl => ?_)
    exact zq_X8_stone_38 X hA  h H locs ls hB (lv_sub hl [1, 0] rfl)
  · have h := h.2 c11
    refine lv_bipush (v := (-3 : Int32)) hx hb dX8_stone_14 (by decide) ?_
    exact zz_iret hx hb hr hlocks hB h dX8_stone_16
theorem zc_X8_stone (l : Launch) (D : va_G) (ca : Nat → ClassId) (a : Nat → Nat) (I : zz_I) (L : zz_L) (sz : Nat)  {P : Int32 → zz_I → zz_L → Prop}  (h : zp_X8_stone  P I L) : Met l yX8_stone [.code yX8_stone cX8_stone 2 (some .int)] ({ frames := 5, cells := 0, slots := 0, locals := 112 } : Room) (zz_Pre D ca zz_dM [.ref (a 0)] a I L sz) (zz_Qi D ca zz_dM (zz_A ca zz_dM a I L sz) a P) 0 0 (zz_A ca zz_dM a I L sz) :=
  zz_start (by decide) (Nat.le_of_ble_eq_true rfl) (fun p e s m below meth c X hsz hA => zq_X8_stone X hA  h)
def zp_X8_sure (x1 : Int32) (P : Int32 → zz_I → zz_L → Prop) (I : zz_I) (L : zz_L) : Prop := ∀ I2 : zz_I, I2 = zz_up I 0 0 (0 : Int32) → (zp_X8_noUnit x1 (fun r7 => (r7 = 0 → zp_X8_sureAt 14 x1 (fun r23 I23 L23 => P r23 I23 L23) I2 L) ∧ (¬ r7 = 0 → P (-1 : Int32) I2 L)) I2 L)
set_option maxHeartbeats 4000000 in
set_option maxRecDepth 100000 in
theorem zq_X8_sure {p : Program} {l : Launch} {e : Env} {s : State} {m : MethodId} {args : Array Value} {below : List Frame} {meth : Method} {c : Code} {D : va_G} {ca : Nat → ClassId} {A : Nat → Prop} {a : Nat → Nat}  {P : Int32 → zz_I → zz_L → Prop} {I : zz_I} {L : zz_L} {x1 : Int32} (X : zz_X p s m meth c cX8_sure RX8 (some .int) 2) (hA : ∀ q, s.heap.size ≤ q → A q)   (h : zp_X8_sure x1 P I L) : zz_Go p l e ({ frames := 7, cells := 0, slots := 0, locals := 182 } : Room) s m args below meth c 0 0 (MQ below (zz_Qi D ca zz_dM A a P) args s 0 0 A) D ca zz_dM A 2 0 a [] [(0, .ref (a 0)), (1, .int x1)] I L := by
  obtain ⟨hx, hb, hml, hown, zw, hr, hlocks⟩ := id X
  intro H locs ls hB hl
  unfold zp_X8_sure at h
  refine lv_aload_n hx hb dX8_sure_0 rfl (lv_at hl 0 rfl) ?_
  refine lv_iconst (v := (0 : Int32)) hx hb dX8_sure_1 (by decide) ?_
  refine zz_puti hx hb hown zw hB zP_X8_94 zdM_0 rfl dX8_sure_2 (fun H locs hB => ?_)
  obtain ⟨I2, eI2⟩ : ∃ z : zz_I, z = zz_up I 0 0 (0 : Int32) := ⟨_, rfl⟩
  rw [← eI2] at hB
  have h := h I2 eI2
  refine lv_aload_n hx hb dX8_sure_5 rfl (lv_at hl 0 rfl) ?_
  refine lv_iload_n hx hb dX8_sure_6 rfl (lv_at hl 1 rfl) ?_
  refine zz_goip hB hA (zz_runV (As := [.int x1]) (rest := []) hx hb hml hown zw hB zM_X8_155 (zc_X8_noUnit l D ca a I2 L H.size h) zdM_0 rfl rfl hl.1 rfl (Nat.le_of_ble_eq_true rfl) rfl rfl ⟨Nat.le_of_ble_eq_true rfl, Nat.le_of_ble_eq_true rfl⟩ dX8_sure_7 ⟨Nat.le_of_ble_eq_true rfl, Nat.le_of_ble_eq_true rfl⟩) (fun r7 H locs h hB => ?_)
  refine lv_if_eq (tgt := 17) hx hb dX8_sure_10 (by decide) (fun c10 => ?_) (fun c10 => ?_)
  · have h := h.1 c10
    refine lv_aload_n hx hb dX8_sure_17 rfl (lv_at hl 0 rfl) ?_
    refine lv_aload_n hx hb dX8_sure_18 rfl (lv_at hl 0 rfl) ?_
    refine zz_getr (k' := 14) hx hb hown zw hB zF_X8_50 zdM_0 rfl rfl dX8_sure_19 ?_
    refine lv_iload_n hx hb dX8_sure_22 rfl (lv_at hl 1 rfl) ?_
    refine zz_goi hB hA (zz_runV (As := [.ref (a 14), .int x1]) (rest := []) hx hb hml hown zw hB zM_X8_257 (zc_X8_sureAt l D ca a I2 L H.size zdM_14 h) zdM_0 rfl rfl hl.1 rfl (Nat.le_of_ble_eq_true rfl) rfl rfl ⟨Nat.le_of_ble_eq_true rfl, Nat.le_of_ble_eq_true rfl⟩ dX8_sure_23 ⟨Nat.le_of_ble_eq_true rfl, Nat.le_of_ble_eq_true rfl⟩) (fun r23 I23 L23 H locs h hB => ?_)
    exact zz_iret hx hb hr hlocks hB h dX8_sure_26
  · have h := h.2 c10
    refine lv_iconst (v := (-1 : Int32)) hx hb dX8_sure_13 (by decide) ?_
    refine lv_goto (tgt := 26) hx hb dX8_sure_14 (by decide) ?_
    exact zz_iret hx hb hr hlocks hB h dX8_sure_26
theorem zc_X8_sure (l : Launch) (D : va_G) (ca : Nat → ClassId) (a : Nat → Nat) (I : zz_I) (L : zz_L) (sz : Nat) {x1 : Int32} {P : Int32 → zz_I → zz_L → Prop}  (h : zp_X8_sure x1 P I L) : Met l yX8_sure [.code yX8_sure cX8_sure 2 (some .int)] ({ frames := 7, cells := 0, slots := 0, locals := 182 } : Room) (zz_Pre D ca zz_dM [.ref (a 0), .int x1] a I L sz) (zz_Qi D ca zz_dM (zz_A ca zz_dM a I L sz) a P) 0 0 (zz_A ca zz_dM a I L sz) :=
  zz_start (by decide) (Nat.le_of_ble_eq_true rfl) (fun p e s m below meth c X hsz hA => zq_X8_sure X hA  h)
def zp_X8_undo_27b (K27 : Int32 → zz_I → zz_L → Prop) (P : Int32 → zz_I → zz_L → Prop) (x1 : Int32) (I : zz_I) (L : zz_L) : Prop := ((43 : Int32) ≤ x1 → P (I 0 21) I L) ∧ (¬ (43 : Int32) ≤ x1 → vp_in (((43 : Int32) * (I 0 21)) + x1) 602 ∧ (vp_in x1 43 ∧ (∀ I52 : zz_I, I52 = zz_up I 14 x1.toNatClampNeg (I 16 (((43 : Int32) * (I 0 21)) + x1).toNatClampNeg) → (∀ v53 : Int32, v53 = x1 + (1 : Int32) → (K27 v53 I52 L)))))
set_option maxHeartbeats 4000000 in
set_option maxRecDepth 100000 in
theorem zq_X8_undo_27b {p : Program} {l : Launch} {e : Env} {s : State} {m : MethodId} {args : Array Value} {below : List Frame} {meth : Method} {c : Code} {D : va_G} {ca : Nat → ClassId} {A : Nat → Prop} {a : Nat → Nat} {K27 : Int32 → zz_I → zz_L → Prop} {P : Int32 → zz_I → zz_L → Prop} {I : zz_I} {L : zz_L} {x1 : Int32} (X : zz_X p s m meth c cX8_undo RX8 (some .int) 2) (hA : ∀ q, s.heap.size ≤ q → A q)  (hK27 : ∀ (y1 : Int32) (I8 : zz_I) (L8 : zz_L), K27 y1 I8 L8 → zz_Go p l e ({ frames := 0, cells := 0, slots := 0, locals := 0 } : Room) s m args below meth c 0 0 (MQ below (zz_Qi D ca zz_dM A a P) args s 0 0 A) D ca zz_dM A 2 27 a [] [(0, .ref (a 0)), (1, .int y1)] I8 L8) (h : zp_X8_undo_27b K27 P x1 I L) : zz_Go p l e ({ frames := 0, cells := 0, slots := 0, locals := 0 } : Room) s m args below meth c 0 0 (MQ below (zz_Qi D ca zz_dM A a P) args s 0 0 A) D ca zz_dM A 2 27 a [] [(0, .ref (a 0)), (1, .int x1)] I L := by
  obtain ⟨hx, hb, hml, hown, zw, hr, hlocks⟩ := id X
  intro H locs ls hB hl
  unfold zp_X8_undo_27b at h
  refine lv_iload_n hx hb dX8_undo_27 rfl (lv_at hl 1 rfl) ?_
  refine lv_bipush (v := (43 : Int32)) hx hb dX8_undo_28 (by decide) ?_
  refine lv_icmp_ge (tgt := 59) hx hb dX8_undo_30 (by decide) (fun c30 => ?_) (fun c30 => ?_)
  · have h := h.1 c30
    refine lv_aload_n hx hb dX8_undo_59 rfl (lv_at hl 0 rfl) ?_
    refine zz_geti hx hb hown zw hB zF_X8_145 zdM_0 rfl dX8_undo_60 ?_
    exact zz_iret hx hb hr hlocks hB h dX8_undo_63
  · have h := h.2 c30
    refine lv_aload_n hx hb dX8_undo_33 rfl (lv_at hl 0 rfl) ?_
    refine zz_getr (k' := 14) hx hb hown zw hB zF_X8_50 zdM_0 rfl rfl dX8_undo_34 ?_
    refine lv_iload_n hx hb dX8_undo_37 rfl (lv_at hl 1 rfl) ?_
    refine lv_aload_n hx hb dX8_undo_38 rfl (lv_at hl 0 rfl) ?_
    refine zz_getr (k' := 16) hx hb hown zw hB zF_X8_56 zdM_0 rfl rfl dX8_undo_39 ?_
    refine lv_bipush (v := (43 : Int32)) hx hb dX8_undo_42 (by decide) ?_
    refine lv_aload_n hx hb dX8_undo_44 rfl (lv_at hl 0 rfl) ?_
    refine zz_geti hx hb hown zw hB zF_X8_145 zdM_0 rfl dX8_undo_45 ?_
    refine lv_imul hx hb dX8_undo_48 ?_
    refine lv_iload_n hx hb dX8_undo_49 rfl (lv_at hl 1 rfl) ?_
    refine lv_iadd hx hb dX8_undo_50 ?_
    obtain ⟨hi51, h⟩ := h
    refine zz_iald hx hb hB zdM_16 hi51 dX8_undo_51 ?_
    obtain ⟨hi52, h⟩ := h
    refine zz_iast hx hb hB zdM_14 hi52 dX8_undo_52 (fun H locs hB => ?_)
    obtain ⟨I52, eI52⟩ : ∃ z : zz_I, z = zz_up I 14 x1.toNatClampNeg (I 16 (((43 : Int32) * (I 0 21)) + x1).toNatClampNeg) := ⟨_, rfl⟩
    rw [← eI52] at hB
    have h := h I52 eI52
    obtain ⟨v53, ev53⟩ : ∃ z : Int32, z = x1 + (1 : Int32) := ⟨_, rfl⟩
    have h := h v53 ev53
    refine lv_iinc (v := v53) (lv' := [(1, .int v53), (0, .ref (a 0))]) hx hb dX8_undo_53 hl (k := 1) rfl (by rw [ev53]; rfl) (by decide) rfl (fun ls hl => ?_)
    refine lv_goto (tgt := 27) hx hb dX8_undo_56 (by decide) ?_
    exact hK27 _ _ _ h H locs ls hB (lv_sub hl [1, 0] rfl)
def zp_X8_undo_27  (P : Int32 → zz_I → zz_L → Prop) (x1 : Int32) (I : zz_I) (L : zz_L) : Prop := ∃ (Inv : Int32 → zz_I → zz_L → Prop) (μ : Int32 → zz_I → zz_L → Nat), Inv x1 I L ∧ ∀ (y1 : Int32) (I8 : zz_I) (L8 : zz_L), Inv y1 I8 L8 → zp_X8_undo_27b  (fun z1 I7 L7 => Inv z1 I7 L7 ∧ μ z1 I7 L7 < μ y1 I8 L8) P y1 I8 L8
set_option maxHeartbeats 4000000 in
set_option maxRecDepth 100000 in
theorem zq_X8_undo_27 {p : Program} {l : Launch} {e : Env} {s : State} {m : MethodId} {args : Array Value} {below : List Frame} {meth : Method} {c : Code} {D : va_G} {ca : Nat → ClassId} {A : Nat → Prop} {a : Nat → Nat}  {P : Int32 → zz_I → zz_L → Prop} {I : zz_I} {L : zz_L} {x1 : Int32} (X : zz_X p s m meth c cX8_undo RX8 (some .int) 2) (hA : ∀ q, s.heap.size ≤ q → A q)   (h : zp_X8_undo_27  P x1 I L) : zz_Go p l e ({ frames := 0, cells := 0, slots := 0, locals := 0 } : Room) s m args below meth c 0 0 (MQ below (zz_Qi D ca zz_dM A a P) args s 0 0 A) D ca zz_dM A 2 27 a [] [(0, .ref (a 0)), (1, .int x1)] I L := by
  unfold zp_X8_undo_27 at h
  obtain ⟨Inv, μ, hv0, hs⟩ := h
  have key : ∀ (n9 : Nat) (y1 : Int32) (I8 : zz_I) (L8 : zz_L), μ y1 I8 L8 < n9 → Inv y1 I8 L8 → zz_Go p l e ({ frames := 0, cells := 0, slots := 0, locals := 0 } : Room) s m args below meth c 0 0 (MQ below (zz_Qi D ca zz_dM A a P) args s 0 0 A) D ca zz_dM A 2 27 a [] [(0, .ref (a 0)), (1, .int y1)] I8 L8 := by
    intro n9
    induction n9 with
    | zero => intro y1 I8 L8 hn; exact absurd hn (Nat.not_lt_zero _)
    | succ n9 ih =>
      intro y1 I8 L8 hn hi
      exact zq_X8_undo_27b (K27 := (fun z1 I7 L7 => Inv z1 I7 L7 ∧ μ z1 I7 L7 < μ y1 I8 L8)) X hA   (fun z1 I7 L7 hz => ih z1 I7 L7 (Nat.lt_of_lt_of_le hz.2 (Nat.le_of_lt_succ hn)) hz.1) (hs y1 I8 L8 hi)
  exact key _ x1 I L (Nat.lt_succ_self _) hv0
def zp_X8_undo  (P : Int32 → zz_I → zz_L → Prop) (I : zz_I) (L : zz_L) : Prop := ∀ I2 : zz_I, I2 = zz_up I 0 0 (0 : Int32) → ((¬ (I2 0 21) = 0 → ∀ I22 : zz_I, I22 = zz_up I2 0 21 ((I2 0 21) - (1 : Int32)) → (zp_X8_undo_27 P (0 : Int32) I22 L)) ∧ ((I2 0 21) = 0 → P (-3 : Int32) I2 L))
set_option maxHeartbeats 4000000 in
set_option maxRecDepth 100000 in
theorem zq_X8_undo {p : Program} {l : Launch} {e : Env} {s : State} {m : MethodId} {args : Array Value} {below : List Frame} {meth : Method} {c : Code} {D : va_G} {ca : Nat → ClassId} {A : Nat → Prop} {a : Nat → Nat}  {P : Int32 → zz_I → zz_L → Prop} {I : zz_I} {L : zz_L}  (X : zz_X p s m meth c cX8_undo RX8 (some .int) 2) (hA : ∀ q, s.heap.size ≤ q → A q)   (h : zp_X8_undo  P I L) : zz_Go p l e ({ frames := 0, cells := 0, slots := 0, locals := 0 } : Room) s m args below meth c 0 0 (MQ below (zz_Qi D ca zz_dM A a P) args s 0 0 A) D ca zz_dM A 2 0 a [] [(0, .ref (a 0))] I L := by
  obtain ⟨hx, hb, hml, hown, zw, hr, hlocks⟩ := id X
  intro H locs ls hB hl
  unfold zp_X8_undo at h
  refine lv_aload_n hx hb dX8_undo_0 rfl (lv_at hl 0 rfl) ?_
  refine lv_iconst (v := (0 : Int32)) hx hb dX8_undo_1 (by decide) ?_
  refine zz_puti hx hb hown zw hB zP_X8_94 zdM_0 rfl dX8_undo_2 (fun H locs hB => ?_)
  obtain ⟨I2, eI2⟩ : ∃ z : zz_I, z = zz_up I 0 0 (0 : Int32) := ⟨_, rfl⟩
  rw [← eI2] at hB
  have h := h I2 eI2
  refine lv_aload_n hx hb dX8_undo_5 rfl (lv_at hl 0 rfl) ?_
  refine zz_geti hx hb hown zw hB zF_X8_145 zdM_0 rfl dX8_undo_6 ?_
  refine lv_if_ne (tgt := 15) hx hb dX8_undo_9 (by decide) (fun c9 => ?_) (fun c9 => ?_)
  · have h := h.1 c9
    refine lv_aload_n hx hb dX8_undo_15 rfl (lv_at hl 0 rfl) ?_
    refine lv_dup hx hb dX8_undo_16 rfl ?_
    refine zz_geti hx hb hown zw hB zF_X8_145 zdM_0 rfl dX8_undo_17 ?_
    refine lv_iconst (v := (1 : Int32)) hx hb dX8_undo_20 (by decide) ?_
    refine lv_isub hx hb dX8_undo_21 ?_
    refine zz_puti hx hb hown zw hB zP_X8_145 zdM_0 rfl dX8_undo_22 (fun H locs hB => ?_)
    obtain ⟨I22, eI22⟩ : ∃ z : zz_I, z = zz_up I2 0 21 ((I2 0 21) - (1 : Int32)) := ⟨_, rfl⟩
    rw [← eI22] at hB
    have h := h I22 eI22
    refine lv_iconst (v := (0 : Int32)) hx hb dX8_undo_25 (by decide) ?_
    refine lv_istore_n (lv' := [(1, .int (0 : Int32)), (0, .ref (a 0))]) hx hb dX8_undo_26 rfl hl (by decide) rfl (fun ls hl => ?_)
    exact zq_X8_undo_27 X hA  h H locs ls hB (lv_sub hl [1, 0] rfl)
  · have h := h.2 c9
    refine lv_bipush (v := (-3 : Int32)) hx hb dX8_undo_12 (by decide) ?_
    exact zz_iret hx hb hr hlocks hB h dX8_undo_14
theorem zc_X8_undo (l : Launch) (D : va_G) (ca : Nat → ClassId) (a : Nat → Nat) (I : zz_I) (L : zz_L) (sz : Nat)  {P : Int32 → zz_I → zz_L → Prop}  (h : zp_X8_undo  P I L) : Met l yX8_undo [.code yX8_undo cX8_undo 2 (some .int)] ({ frames := 0, cells := 0, slots := 0, locals := 0 } : Room) (zz_Pre D ca zz_dM [.ref (a 0)] a I L sz) (zz_Qi D ca zz_dM (zz_A ca zz_dM a I L sz) a P) 0 0 (zz_A ca zz_dM a I L sz) :=
  zz_start (by decide) (Nat.le_of_ble_eq_true rfl) (fun p e s m below meth c X hsz hA => zq_X8_undo X hA  h)
def zp_X8_unsee  (P : Int32 → zz_I → zz_L → Prop) (I : zz_I) (L : zz_L) : Prop := ∀ I2 : zz_I, I2 = zz_up I 0 0 (0 : Int32) → (∀ v9 : Int32, v9 = I2 0 24 → (∀ I12 : zz_I, I12 = zz_up I2 0 24 (0 : Int32) → (P v9 I12 L)))
set_option maxHeartbeats 4000000 in
set_option maxRecDepth 100000 in
theorem zq_X8_unsee {p : Program} {l : Launch} {e : Env} {s : State} {m : MethodId} {args : Array Value} {below : List Frame} {meth : Method} {c : Code} {D : va_G} {ca : Nat → ClassId} {A : Nat → Prop} {a : Nat → Nat}  {P : Int32 → zz_I → zz_L → Prop} {I : zz_I} {L : zz_L}  (X : zz_X p s m meth c cX8_unsee RX8 (some .int) 2) (hA : ∀ q, s.heap.size ≤ q → A q)   (h : zp_X8_unsee  P I L) : zz_Go p l e ({ frames := 0, cells := 0, slots := 0, locals := 0 } : Room) s m args below meth c 0 0 (MQ below (zz_Qi D ca zz_dM A a P) args s 0 0 A) D ca zz_dM A 2 0 a [] [(0, .ref (a 0))] I L := by
  obtain ⟨hx, hb, hml, hown, zw, hr, hlocks⟩ := id X
  intro H locs ls hB hl
  unfold zp_X8_unsee at h
  refine lv_aload_n hx hb dX8_unsee_0 rfl (lv_at hl 0 rfl) ?_
  refine lv_iconst (v := (0 : Int32)) hx hb dX8_unsee_1 (by decide) ?_
  refine zz_puti hx hb hown zw hB zP_X8_94 zdM_0 rfl dX8_unsee_2 (fun H locs hB => ?_)
  obtain ⟨I2, eI2⟩ : ∃ z : zz_I, z = zz_up I 0 0 (0 : Int32) := ⟨_, rfl⟩
  rw [← eI2] at hB
  have h := h I2 eI2
  refine lv_aload_n hx hb dX8_unsee_5 rfl (lv_at hl 0 rfl) ?_
  refine zz_geti hx hb hown zw hB zF_X8_196 zdM_0 rfl dX8_unsee_6 ?_
  refine lv_topi (fun v9 ev9 => ?_)
  have h := h v9 ev9
  refine lv_istore_n (lv' := [(1, .int v9), (0, .ref (a 0))]) hx hb dX8_unsee_9 rfl hl (by decide) rfl (fun ls hl => ?_)
  refine lv_aload_n hx hb dX8_unsee_10 rfl (lv_at hl 1 rfl) ?_
  refine lv_iconst (v := (0 : Int32)) hx hb dX8_unsee_11 (by decide) ?_
  refine zz_puti hx hb hown zw hB zP_X8_196 zdM_0 rfl dX8_unsee_12 (fun H locs hB => ?_)
  obtain ⟨I12, eI12⟩ : ∃ z : zz_I, z = zz_up I2 0 24 (0 : Int32) := ⟨_, rfl⟩
  rw [← eI12] at hB
  have h := h I12 eI12
  refine lv_iload_n hx hb dX8_unsee_15 rfl (lv_at hl 0 rfl) ?_
  exact zz_iret hx hb hr hlocks hB h dX8_unsee_16
theorem zc_X8_unsee (l : Launch) (D : va_G) (ca : Nat → ClassId) (a : Nat → Nat) (I : zz_I) (L : zz_L) (sz : Nat)  {P : Int32 → zz_I → zz_L → Prop}  (h : zp_X8_unsee  P I L) : Met l yX8_unsee [.code yX8_unsee cX8_unsee 2 (some .int)] ({ frames := 0, cells := 0, slots := 0, locals := 0 } : Room) (zz_Pre D ca zz_dM [.ref (a 0)] a I L sz) (zz_Qi D ca zz_dM (zz_A ca zz_dM a I L sz) a P) 0 0 (zz_A ca zz_dM a I L sz) :=
  zz_start (by decide) (Nat.le_of_ble_eq_true rfl) (fun p e s m below meth c X hsz hA => zq_X8_unsee X hA  h)
def zp_X8_wear (x1 : Int32) (P : Int32 → zz_I → zz_L → Prop) (I : zz_I) (L : zz_L) : Prop := ∀ I2 : zz_I, I2 = zz_up I 0 0 (0 : Int32) → (zp_X8_noUnit x1 (fun r7 => (r7 = 0 → vp_in ((19 : Int32) + x1) 43 ∧ (((I2 14 ((19 : Int32) + x1).toNatClampNeg) ≤ (6 : Int32) → zp_X8_note  (fun I33 L33 => vp_in ((19 : Int32) + x1) 43 ∧ (∀ v45 : Int32, v45 = I33 14 ((19 : Int32) + x1).toNatClampNeg → (zp_X8_wearOn 14 x1 (fun I52 L52 => P v45 I52 L52) I33 L33))) I2 L) ∧ (¬ (I2 14 ((19 : Int32) + x1).toNatClampNeg) ≤ (6 : Int32) → P (-3 : Int32) I2 L))) ∧ (¬ r7 = 0 → P (-1 : Int32) I2 L)) I2 L)
set_option maxHeartbeats 4000000 in
set_option maxRecDepth 100000 in
theorem zq_X8_wear {p : Program} {l : Launch} {e : Env} {s : State} {m : MethodId} {args : Array Value} {below : List Frame} {meth : Method} {c : Code} {D : va_G} {ca : Nat → ClassId} {A : Nat → Prop} {a : Nat → Nat}  {P : Int32 → zz_I → zz_L → Prop} {I : zz_I} {L : zz_L} {x1 : Int32} (X : zz_X p s m meth c cX8_wear RX8 (some .int) 3) (hA : ∀ q, s.heap.size ≤ q → A q)   (h : zp_X8_wear x1 P I L) : zz_Go p l e ({ frames := 2, cells := 0, slots := 0, locals := 46 } : Room) s m args below meth c 0 0 (MQ below (zz_Qi D ca zz_dM A a P) args s 0 0 A) D ca zz_dM A 3 0 a [] [(0, .ref (a 0)), (1, .int x1)] I L := by
  obtain ⟨hx, hb, hml, hown, zw, hr, hlocks⟩ := id X
  intro H locs ls hB hl
  unfold zp_X8_wear at h
  refine lv_aload_n hx hb dX8_wear_0 rfl (lv_at hl 0 rfl) ?_
  refine lv_iconst (v := (0 : Int32)) hx hb dX8_wear_1 (by decide) ?_
  refine zz_puti hx hb hown zw hB zP_X8_94 zdM_0 rfl dX8_wear_2 (fun H locs hB => ?_)
  obtain ⟨I2, eI2⟩ : ∃ z : zz_I, z = zz_up I 0 0 (0 : Int32) := ⟨_, rfl⟩
  rw [← eI2] at hB
  have h := h I2 eI2
  refine lv_aload_n hx hb dX8_wear_5 rfl (lv_at hl 0 rfl) ?_
  refine lv_iload_n hx hb dX8_wear_6 rfl (lv_at hl 1 rfl) ?_
  refine zz_goip hB hA (zz_runV (As := [.int x1]) (rest := []) hx hb hml hown zw hB zM_X8_155 (zc_X8_noUnit l D ca a I2 L H.size h) zdM_0 rfl rfl hl.1 rfl (Nat.le_of_ble_eq_true rfl) rfl rfl ⟨Nat.le_of_ble_eq_true rfl, Nat.le_of_ble_eq_true rfl⟩ dX8_wear_7 ⟨Nat.le_of_ble_eq_true rfl, Nat.le_of_ble_eq_true rfl⟩) (fun r7 H locs h hB => ?_)
  refine lv_if_eq (tgt := 15) hx hb dX8_wear_10 (by decide) (fun c10 => ?_) (fun c10 => ?_)
  · have h := h.1 c10
    refine lv_aload_n hx hb dX8_wear_15 rfl (lv_at hl 0 rfl) ?_
    refine zz_getr (k' := 14) hx hb hown zw hB zF_X8_50 zdM_0 rfl rfl dX8_wear_16 ?_
    refine lv_bipush (v := (19 : Int32)) hx hb dX8_wear_19 (by decide) ?_
    refine lv_iload_n hx hb dX8_wear_21 rfl (lv_at hl 1 rfl) ?_
    refine lv_iadd hx hb dX8_wear_22 ?_
    obtain ⟨hi23, h⟩ := h
    refine zz_iald hx hb hB zdM_14 hi23 dX8_wear_23 ?_
    refine lv_bipush (v := (6 : Int32)) hx hb dX8_wear_24 (by decide) ?_
    refine lv_icmp_le (tgt := 32) hx hb dX8_wear_26 (by decide) (fun c26 => ?_) (fun c26 => ?_)
    · have h := h.1 c26
      refine lv_aload_n hx hb dX8_wear_32 rfl (lv_at hl 0 rfl) ?_
      refine zz_gov hB hA (zz_runV (As := []) (rest := []) hx hb hml hown zw hB zM_X8_167 (zc_X8_note l D ca a I2 L H.size h) zdM_0 rfl rfl hl.1 rfl (Nat.le_of_ble_eq_true rfl) rfl rfl ⟨Nat.le_of_ble_eq_true rfl, Nat.le_of_ble_eq_true rfl⟩ dX8_wear_33 ⟨Nat.le_of_ble_eq_true rfl, Nat.le_of_ble_eq_true rfl⟩) (fun I33 L33 H locs h hB => ?_)
      refine lv_aload_n hx hb dX8_wear_36 rfl (lv_at hl 0 rfl) ?_
      refine zz_getr (k' := 14) hx hb hown zw hB zF_X8_50 zdM_0 rfl rfl dX8_wear_37 ?_
      refine lv_bipush (v := (19 : Int32)) hx hb dX8_wear_40 (by decide) ?_
      refine lv_iload_n hx hb dX8_wear_42 rfl (lv_at hl 1 rfl) ?_
      refine lv_iadd hx hb dX8_wear_43 ?_
      obtain ⟨hi44, h⟩ := h
      refine zz_iald hx hb hB zdM_14 hi44 dX8_wear_44 ?_
      refine lv_topi (fun v45 ev45 => ?_)
      have h := h v45 ev45
      refine lv_istore_n (lv' := [(2, .int v45), (0, .ref (a 0)), (1, .int x1)]) hx hb dX8_wear_45 rfl hl (by decide) rfl (fun ls hl => ?_)
      refine lv_aload_n hx hb dX8_wear_46 rfl (lv_at hl 1 rfl) ?_
      refine lv_aload_n hx hb dX8_wear_47 rfl (lv_at hl 1 rfl) ?_
      refine zz_getr (k' := 14) hx hb hown zw hB zF_X8_50 zdM_0 rfl rfl dX8_wear_48 ?_
      refine lv_iload_n hx hb dX8_wear_51 rfl (lv_at hl 2 rfl) ?_
      refine zz_gov hB hA (zz_runV (As := [.ref (a 14), .int x1]) (rest := []) hx hb hml hown zw hB zM_X8_170 (zc_X8_wearOn l D ca a I33 L33 H.size zdM_14 h) zdM_0 rfl rfl hl.1 rfl (Nat.le_of_ble_eq_true rfl) rfl rfl ⟨Nat.le_of_ble_eq_true rfl, Nat.le_of_ble_eq_true rfl⟩ dX8_wear_52 ⟨Nat.le_of_ble_eq_true rfl, Nat.le_of_ble_eq_true rfl⟩) (fun I52 L52 H locs h hB => ?_)
      refine lv_iload_n hx hb dX8_wear_55 rfl (lv_at hl 0 rfl) ?_
      exact zz_iret hx hb hr hlocks hB h dX8_wear_56
    · have h := h.2 c26
      refine lv_bipush (v := (-3 : Int32)) hx hb dX8_wear_29 (by decide) ?_
      exact zz_iret hx hb hr hlocks hB h dX8_wear_31
  · have h := h.2 c10
    refine lv_iconst (v := (-1 : Int32)) hx hb dX8_wear_13 (by decide) ?_
    exact zz_iret hx hb hr hlocks hB h dX8_wear_14
theorem zc_X8_wear (l : Launch) (D : va_G) (ca : Nat → ClassId) (a : Nat → Nat) (I : zz_I) (L : zz_L) (sz : Nat) {x1 : Int32} {P : Int32 → zz_I → zz_L → Prop}  (h : zp_X8_wear x1 P I L) : Met l yX8_wear [.code yX8_wear cX8_wear 3 (some .int)] ({ frames := 2, cells := 0, slots := 0, locals := 46 } : Room) (zz_Pre D ca zz_dM [.ref (a 0), .int x1] a I L sz) (zz_Qi D ca zz_dM (zz_A ca zz_dM a I L sz) a P) 0 0 (zz_A ca zz_dM a I L sz) :=
  zz_start (by decide) (Nat.le_of_ble_eq_true rfl) (fun p e s m below meth c X hsz hA => zq_X8_wear X hA  h)
def zp_X8_weigh (x1 : Int32) (x2 : Int32) (P : Int32 → zz_I → zz_L → Prop) (I : zz_I) (L : zz_L) : Prop := ∀ I2 : zz_I, I2 = zz_up I 0 0 (0 : Int32) → (zp_X8_noWord x1 (fun r7 => (r7 = 0 → zp_X8_in (x2.toInt64) (1 : Int64) (9 : Int64) (fun r21 => (¬ r21 = 0 → zp_X8_note  (fun I31 L31 => vp_in ((11 : Int32) + x1) 43 ∧ (∀ v43 : Int32, v43 = I31 14 ((11 : Int32) + x1).toNatClampNeg → (vp_in ((11 : Int32) + x1) 43 ∧ (∀ I53 : zz_I, I53 = zz_up I31 14 ((11 : Int32) + x1).toNatClampNeg x2 → (P v43 I53 L31))))) I2 L) ∧ (r21 = 0 → P (-2 : Int32) I2 L)) I2 L) ∧ (¬ r7 = 0 → P (-1 : Int32) I2 L)) I2 L)
set_option maxHeartbeats 4000000 in
set_option maxRecDepth 100000 in
theorem zq_X8_weigh {p : Program} {l : Launch} {e : Env} {s : State} {m : MethodId} {args : Array Value} {below : List Frame} {meth : Method} {c : Code} {D : va_G} {ca : Nat → ClassId} {A : Nat → Prop} {a : Nat → Nat}  {P : Int32 → zz_I → zz_L → Prop} {I : zz_I} {L : zz_L} {x1 : Int32} {x2 : Int32} (X : zz_X p s m meth c cX8_weigh RX8 (some .int) 4) (hA : ∀ q, s.heap.size ≤ q → A q)   (h : zp_X8_weigh x1 x2 P I L) : zz_Go p l e ({ frames := 2, cells := 0, slots := 0, locals := 46 } : Room) s m args below meth c 0 0 (MQ below (zz_Qi D ca zz_dM A a P) args s 0 0 A) D ca zz_dM A 4 0 a [] [(0, .ref (a 0)), (1, .int x1), (2, .int x2)] I L := by
  obtain ⟨hx, hb, hml, hown, zw, hr, hlocks⟩ := id X
  intro H locs ls hB hl
  unfold zp_X8_weigh at h
  refine lv_aload_n hx hb dX8_weigh_0 rfl (lv_at hl 0 rfl) ?_
  refine lv_iconst (v := (0 : Int32)) hx hb dX8_weigh_1 (by decide) ?_
  refine zz_puti hx hb hown zw hB zP_X8_94 zdM_0 rfl dX8_weigh_2 (fun H locs hB => ?_)
  obtain ⟨I2, eI2⟩ : ∃ z : zz_I, z = zz_up I 0 0 (0 : Int32) := ⟨_, rfl⟩
  rw [← eI2] at hB
  have h := h I2 eI2
  refine lv_aload_n hx hb dX8_weigh_5 rfl (lv_at hl 0 rfl) ?_
  refine lv_iload_n hx hb dX8_weigh_6 rfl (lv_at hl 1 rfl) ?_
  refine zz_goip hB hA (zz_runV (As := [.int x1]) (rest := []) hx hb hml hown zw hB zM_X8_148 (zc_X8_noWord l D ca a I2 L H.size h) zdM_0 rfl rfl hl.1 rfl (Nat.le_of_ble_eq_true rfl) rfl rfl ⟨Nat.le_of_ble_eq_true rfl, Nat.le_of_ble_eq_true rfl⟩ dX8_weigh_7 ⟨Nat.le_of_ble_eq_true rfl, Nat.le_of_ble_eq_true rfl⟩) (fun r7 H locs h hB => ?_)
  refine lv_if_eq (tgt := 15) hx hb dX8_weigh_10 (by decide) (fun c10 => ?_) (fun c10 => ?_)
  · have h := h.1 c10
    refine lv_iload_n hx hb dX8_weigh_15 rfl (lv_at hl 2 rfl) ?_
    refine lv_i2l (v := x2.toInt64) hx hb dX8_weigh_16 rfl ?_
    refine lv_lconst (v := (1 : Int64)) hx hb dX8_weigh_17 (by decide) ?_
    refine lv_ldc2 (v := (9 : Int64)) hx hb hown (zz_W_use zw zk_X8_184 rfl) dX8_weigh_18 ?_
    refine zz_goip hB hA (zz_runS (As := [.long (x2.toInt64), .long (1 : Int64), .long (9 : Int64)]) (rest := []) hx hb hml hown zw hB zM_X8_101 (zc_X8_in l D ca a I2 L H.size h) rfl hl.1 rfl (Nat.le_of_ble_eq_true rfl) rfl rfl ⟨Nat.le_of_ble_eq_true rfl, Nat.le_of_ble_eq_true rfl⟩ dX8_weigh_21 ⟨Nat.le_of_ble_eq_true rfl, Nat.le_of_ble_eq_true rfl⟩) (fun r21 H locs h hB => ?_)
    refine lv_if_ne (tgt := 30) hx hb dX8_weigh_24 (by decide) (fun c24 => ?_) (fun c24 => ?_)
    · have h := h.1 c24
      refine lv_aload_n hx hb dX8_weigh_30 rfl (lv_at hl 0 rfl) ?_
      refine zz_gov hB hA (zz_runV (As := []) (rest := []) hx hb hml hown zw hB zM_X8_167 (zc_X8_note l D ca a I2 L H.size h) zdM_0 rfl rfl hl.1 rfl (Nat.le_of_ble_eq_true rfl) rfl rfl ⟨Nat.le_of_ble_eq_true rfl, Nat.le_of_ble_eq_true rfl⟩ dX8_weigh_31 ⟨Nat.le_of_ble_eq_true rfl, Nat.le_of_ble_eq_true rfl⟩) (fun I31 L31 H locs h hB => ?_)
      refine lv_aload_n hx hb dX8_weigh_34 rfl (lv_at hl 0 rfl) ?_
      refine zz_getr (k' := 14) hx hb hown zw hB zF_X8_50 zdM_0 rfl rfl dX8_weigh_35 ?_
      refine lv_bipush (v := (11 : Int32)) hx hb dX8_weigh_38 (by decide) ?_
      refine lv_iload_n hx hb dX8_weigh_40 rfl (lv_at hl 1 rfl) ?_
      refine lv_iadd hx hb dX8_weigh_41 ?_
      obtain ⟨hi42, h⟩ := h
      refine zz_iald hx hb hB zdM_14 hi42 dX8_weigh_42 ?_
      refine lv_topi (fun v43 ev43 => ?_)
      have h := h v43 ev43
      refine lv_istore_n (lv' := [(3, .int v43), (0, .ref (a 0)), (1, .int x1), (2, .int x2)]) hx hb dX8_weigh_43 rfl hl (by decide) rfl (fun ls hl => ?_)
      refine lv_aload_n hx hb dX8_weigh_44 rfl (lv_at hl 1 rfl) ?_
      refine zz_getr (k' := 14) hx hb hown zw hB zF_X8_50 zdM_0 rfl rfl dX8_weigh_45 ?_
      refine lv_bipush (v := (11 : Int32)) hx hb dX8_weigh_48 (by decide) ?_
      refine lv_iload_n hx hb dX8_weigh_50 rfl (lv_at hl 2 rfl) ?_
      refine lv_iadd hx hb dX8_weigh_51 ?_
      refine lv_iload_n hx hb dX8_weigh_52 rfl (lv_at hl 3 rfl) ?_
      obtain ⟨hi53, h⟩ := h
      refine zz_iast hx hb hB zdM_14 hi53 dX8_weigh_53 (fun H locs hB => ?_)
      obtain ⟨I53, eI53⟩ : ∃ z : zz_I, z = zz_up I31 14 ((11 : Int32) + x1).toNatClampNeg x2 := ⟨_, rfl⟩
      rw [← eI53] at hB
      have h := h I53 eI53
      refine lv_iload_n hx hb dX8_weigh_54 rfl (lv_at hl 0 rfl) ?_
      exact zz_iret hx hb hr hlocks hB h dX8_weigh_55
    · have h := h.2 c24
      refine lv_bipush (v := (-2 : Int32)) hx hb dX8_weigh_27 (by decide) ?_
      exact zz_iret hx hb hr hlocks hB h dX8_weigh_29
  · have h := h.2 c10
    refine lv_iconst (v := (-1 : Int32)) hx hb dX8_weigh_13 (by decide) ?_
    exact zz_iret hx hb hr hlocks hB h dX8_weigh_14
theorem zc_X8_weigh (l : Launch) (D : va_G) (ca : Nat → ClassId) (a : Nat → Nat) (I : zz_I) (L : zz_L) (sz : Nat) {x1 : Int32} {x2 : Int32} {P : Int32 → zz_I → zz_L → Prop}  (h : zp_X8_weigh x1 x2 P I L) : Met l yX8_weigh [.code yX8_weigh cX8_weigh 4 (some .int)] ({ frames := 2, cells := 0, slots := 0, locals := 46 } : Room) (zz_Pre D ca zz_dM [.ref (a 0), .int x1, .int x2] a I L sz) (zz_Qi D ca zz_dM (zz_A ca zz_dM a I L sz) a P) 0 0 (zz_A ca zz_dM a I L sz) :=
  zz_start (by decide) (Nat.le_of_ble_eq_true rfl) (fun p e s m below meth c X hsz hA => zq_X8_weigh X hA  h)
