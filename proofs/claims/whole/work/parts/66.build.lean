/-! the class's table of ends by weight -/
section
variable {un nw : Nat} {sp wt : Nat → Nat} {op fo : Nat → Nat → Bool} {om' : Nat → Nat}
theorem zk_row {u w : Nat} : (((nI u * (8 : Int32)) + nI w) * (73 : Int32)) = nI ((u * 8 + w) * 73) := by
  rw [show nI u * (8 : Int32) = nI (u * 8) from pk_mul u 8, nI_add, show nI (u * 8 + w) * (73 : Int32) = nI ((u * 8 + w) * 73) from pk_mul _ 73]
/-- the sum of the rows behind, by the chart -/
def zk_Sv (un nw : Nat) (sp wt : Nat → Nat) (op fo : Nat → Nat → Bool) (om' : Nat → Nat) (x w j t : Nat) : Nat := zt_sum j (fun v => if (om' x).testBit v && fo w v then zk_T un nw sp wt op fo x v t else 0)
theorem zk_Sv_T (hop : zk_op un nw sp fo op om') {u w t : Nat} (hb : (om' u).testBit w = true) (hu : u < un) (hne : ¬ u + sp w = un) (ht : wt w ≤ t) : zk_T un nw sp wt op fo u w t = zk_Sv un nw sp wt op fo om' (u + sp w + 1) w nw (t - wt w) := by
  rw [zk_T_on hu hne ht]
  unfold zk_Sv
  refine zt_sum_congr (fun v hv => ?_)
  cases q : (om' (u + sp w + 1)).testBit v
  · simp only [Bool.false_and, Bool.false_eq_true, if_false]
    cases q2 : (op (u + sp w + 1) v && fo w v)
    · rfl
    · rw [if_pos rfl]
      rw [Bool.and_eq_true] at q2
      refine Nat.eq_zero_of_not_pos (fun hp => ?_)
      have := hop.2.2 u w v hb hv q2.1 q2.2 (zk_T_N hp)
      rw [q] at this; cases this
  · rw [(hop.1 _ _ q).2]
theorem zs_fillRow {I : zz_I} {L : zz_L} {P : zz_I → zz_L → Prop} (hc : zk_ch I un nw sp fo om') (hop : zk_op un nw sp fo op om') (hwt : ∀ w, w < nw → I 46 w = nI (wt w) ∧ 1 ≤ wt w ∧ wt w ≤ 9) (h45 : I 45 0 = 14016) {u w : Nat} (hb : (om' u).testBit w = true) (hT : ∀ x v, u < x → (om' x).testBit v = true → ∀ t, t < 73 → L 45 ((x * 8 + v) * 73 + t) = lN (zk_T un nw sp wt op fo x v t)) (h : ∀ M : zz_L, (∀ k j, ¬ (k = 45 ∧ (u * 8 + w) * 73 ≤ j ∧ j < (u * 8 + w) * 73 + 73) → M k j = L k j) → (∀ t, t < 73 → M 45 ((u * 8 + w) * 73 + t) = lN (zk_T un nw sp wt op fo u w t)) → P I M) : zp_X3_fillRow (nI u) (nI w) P I L := by
  obtain ⟨c6, c7, h24, h8, hw, hm, hin⟩ := id hc
  have hbw := hin u w hb
  obtain ⟨s41, s2, s15, s40⟩ := hw w hbw.1
  obtain ⟨w46, w1, w9⟩ := hwt w hbw.1
  have e45 : (I 45 0).toNatClampNeg = 14016 := by rw [h45]; decide
  obtain ⟨B, eB⟩ : ∃ B, B = (u * 8 + w) * 73 := ⟨_, rfl⟩
  have hB : B + 73 ≤ 14016 := by omega
  unfold zp_X3_fillRow zp_X3_rowOf
  rw [zk_row, ← eB, zn_cl (n := w) (by omega), w46]
  rw [← eB] at h
  refine ⟨vp_in_nI (by omega) (by decide), ?_⟩
  rintro _ rfl
  refine ⟨fun y J M => ∃ i : Nat, i ≤ 73 ∧ y = nI i ∧ I = J ∧ (∀ k j, ¬ (k = 45 ∧ B ≤ j ∧ j < B + 73) → M k j = L k j) ∧ ∀ t, t < i → M 45 (B + t) = lN 0, fun y _ _ => 73 - y.toNatClampNeg, ⟨0, by omega, rfl, rfl, fun _ _ _ => rfl, fun t ht => absurd ht (by omega)⟩, ?_⟩
  rintro y J M ⟨i, hi, rfl, rfl, hf, hz⟩
  unfold zp_X3_fillRow_18b
  refine pk_le 73 i (fun c => ?_) (fun c => ?_)
  · have : i = 73 := by omega
    subst this
    refine zs_nextUnit s41 (by omega) ?_
    rw [c6]
    refine pk_le (u + sp w + 1) un (fun c1 => ?_) (fun c1 => ?_)
    · obtain ⟨x, ex⟩ : ∃ x, x = u + sp w + 1 := ⟨_, rfl⟩
      obtain ⟨hv, ehv⟩ : ∃ hv, hv = (if 72 - wt w < (un - x + 1) / 3 * 9 then 72 - wt w else (un - x + 1) / 3 * 9) := ⟨_, rfl⟩
      have hh : ((72 : Int32) - nI (wt w)) = nI (72 - wt w) := pk_sub (a := 72) (by omega)
      have hh2 : (((nI un - nI x) + (1 : Int32)) / (3 : Int32)) * (9 : Int32) = nI ((un - x + 1) / 3 * 9) := by
        rw [pk_sub (by omega), show nI (un - x) + (1 : Int32) = nI (un - x + 1) from nI_1 _, show nI (un - x + 1) / (3 : Int32) = nI ((un - x + 1) / 3) from pk_div (d := 3) (by omega) (by omega) (by omega), show nI ((un - x + 1) / 3) * (9 : Int32) = nI ((un - x + 1) / 3 * 9) from pk_mul _ 9]
      unfold zp_X3_heaviestFrom
      rw [← ex, c6, hh2, hh]
      intro v85 ev
      have ev2 : v85 = nI hv := by
        rw [ev, ehv]
        by_cases q : 72 - wt w < (un - x + 1) / 3 * 9
        · rw [if_pos ((nI_ltI (by omega) (by omega)).mpr q), if_pos q]
        · rw [if_neg (fun z => q ((nI_ltI (by omega) (by omega)).mp z)), if_neg q]
      subst ev2
      have hv72 : hv + wt w ≤ 72 := by rw [ehv]; split <;> omega
      have hmax : ∀ v t, v < nw → hv < t → t + wt w ≤ 72 → zk_T un nw sp wt op fo x v t = 0 := by
        intro v t hv' h1 h2
        refine zk_T_max (fun w hw' => (hw w hw').2.1) (fun w hw' => (hwt w hw').2.2) _ _ _ _ (Nat.le_refl _) hv' ?_
        rw [ehv] at h1
        by_cases q : 72 - wt w < (un - x + 1) / 3 * 9
        · rw [if_pos q] at h1; omega
        · rw [if_neg q] at h1; omega
      refine ⟨fun y J N => ∃ j : Nat, j ≤ nw ∧ y = nI j ∧ I = J ∧ (∀ k j, ¬ (k = 45 ∧ B ≤ j ∧ j < B + 73) → N k j = L k j) ∧ (∀ t, t ≤ wt w → N 45 (B + t) = lN 0) ∧ (∀ t, 1 ≤ t → t + wt w ≤ 72 → N 45 (B + wt w + t) = lN (zk_Sv un nw sp wt op fo om' x w j t)), fun y _ _ => 8 - y.toNatClampNeg, ⟨0, by omega, rfl, rfl, hf, fun t ht => hz t (by omega), fun t h1 h2 => ?_⟩, ?_⟩
      · rw [Nat.add_assoc]; exact hz (wt w + t) (by omega)
      clear hz hf
      rintro y J N ⟨j, hj, rfl, rfl, hf, hz, hs⟩
      unfold zp_X3_fillRow_90b
      refine pk_le nw j (fun c2 => ?_) (fun c2 => ?_) (hx := c7)
      · have : j = nw := by omega
        subst this
        refine h N hf (fun t ht => ?_)
        by_cases q : t ≤ wt w
        · rw [hz t q]
          congr 1
          by_cases q2 : t < wt w
          · rw [zk_T_lt q2]
          · rw [zk_Sv_T hop hb (by omega) (by omega) (by omega)]
            unfold zk_Sv
            refine (zt_sum_zero (fun v hv' => ?_)).symm
            rw [zk_T_lt (by have := (hwt v hv').2.1; omega)]; simp
        · have h1 := hs (t - wt w) (by omega) (by omega)
          rw [show B + wt w + (t - wt w) = B + t by omega] at h1
          rw [h1, zk_Sv_T hop hb (by omega) (by omega) (by omega), ← ex]
      · have skip : (∀ t, zk_Sv un nw sp wt op fo om' x w (j + 1) t = zk_Sv un nw sp wt op fo om' x w j t) → ∀ v175 : Int32, v175 = nI j + (1 : Int32) → (∃ j2 : Nat, j2 ≤ nw ∧ v175 = nI j2 ∧ I = I ∧ (∀ k j, ¬ (k = 45 ∧ B ≤ j ∧ j < B + 73) → N k j = L k j) ∧ (∀ t, t ≤ wt w → N 45 (B + t) = lN 0) ∧ (∀ t, 1 ≤ t → t + wt w ≤ 72 → N 45 (B + wt w + t) = lN (zk_Sv un nw sp wt op fo om' x w j2 t))) ∧ 8 - v175.toNatClampNeg < 8 - (nI j).toNatClampNeg := by
          rintro q _ rfl
          refine ⟨⟨j + 1, by omega, nI_1 j, rfl, hf, hz, fun t h1 h2 => ?_⟩, zz_down (n := 8) (by omega) (by omega)⟩
          rw [q]; exact hs t h1 h2
        have ox := hm x (by omega)
        refine zs_isOpen ox.1 ox.2 (by omega) (by omega) (zb_br (fun q => skip (fun t => ?_)) (fun q => ?_))
        · unfold zk_Sv; simp only [zt_sum]; rw [q]; simp
        · rw [zn_cl (n := w) (by omega), s40]
          refine ⟨vp_in_nI (by omega) (by decide), zy_bit (zy_mk_256 h8) (by omega) (fun q2 => skip (fun t => ?_)) (fun q2 => ?_)⟩
          · rw [zy_mk_bit, decide_eq_true c2, Bool.true_and] at q2
            unfold zk_Sv; simp only [zt_sum]; rw [q, q2]; simp
          · rw [zy_mk_bit, decide_eq_true c2, Bool.true_and] at q2
            have hx := hin x j q
            have sj := (hw j hx.1).2.1
            have step : ∀ t, zk_Sv un nw sp wt op fo om' x w (j + 1) t = zk_Sv un nw sp wt op fo om' x w j t + zk_T un nw sp wt op fo x j t := fun t => by
              unfold zk_Sv; simp only [zt_sum]; rw [q, q2]; rfl
            unfold zp_X3_rowOf
            rw [zk_row]
            obtain ⟨D, eD⟩ : ∃ D, D = (x * 8 + j) * 73 := ⟨_, rfl⟩
            have hD : D + 73 ≤ 14016 := by omega
            have hBD : B + 73 ≤ D := by omega
            rw [← eD]
            refine ⟨fun y J K => ∃ t0 : Nat, 1 ≤ t0 ∧ t0 ≤ hv + 1 ∧ y = nI t0 ∧ I = J ∧ (∀ k j, ¬ (k = 45 ∧ B ≤ j ∧ j < B + 73) → K k j = L k j) ∧ (∀ t, t ≤ wt w → K 45 (B + t) = lN 0) ∧ (∀ t, 1 ≤ t → t + wt w ≤ 72 → K 45 (B + wt w + t) = lN (if t < t0 then zk_Sv un nw sp wt op fo om' x w (j + 1) t else zk_Sv un nw sp wt op fo om' x w j t)), fun y _ _ => 73 - y.toNatClampNeg, ⟨1, by omega, by omega, rfl, rfl, hf, hz, fun t h1 h2 => by rw [if_neg (by omega)]; exact hs t h1 h2⟩, ?_⟩
            clear hs hz hf
            rintro y J K ⟨t0, h01, h0v, rfl, rfl, hf, hz, hs⟩
            unfold zp_X3_fillRow_136b
            refine pk_lt hv t0 (fun c3 => ?_) (fun c3 => ?_)
            · rintro _ rfl
              refine ⟨⟨j + 1, by omega, nI_1 j, rfl, hf, hz, fun t h1 h2 => ?_⟩, zz_down (n := 8) (by omega) (by omega)⟩
              rw [hs t h1 h2]
              by_cases q3 : t < t0
              · rw [if_pos q3]
              · rw [if_neg q3, step, hmax j t c2 (by omega) h2, Nat.add_zero]
            · have e1 : (nI B + nI (wt w)) + nI t0 = nI (B + wt w + t0) := by rw [nI_add, nI_add]
              have e2 : nI D + nI t0 = nI (D + t0) := nI_add _ _
              rw [e1, e2, e45, zn_cl (n := B + wt w + t0) (by omega), zn_cl (n := D + t0) (by omega)]
              refine ⟨vp_in_nI (by omega) (by decide), vp_in_nI (by omega) (by decide), vp_in_nI (by omega) (by decide), ?_⟩
              rw [hs t0 h01 (by omega), if_neg (by omega), hf 45 (D + t0) (by omega), eD, hT x j (by omega) q t0 (by omega), lN_add, ← step]
              rintro _ rfl _ rfl
              refine ⟨⟨t0 + 1, by omega, by omega, nI_1 t0, rfl, fun k j2 hk => ?_, fun t ht => ?_, fun t h1 h2 => ?_⟩, zz_down (n := 73) (by omega) (by omega)⟩
              · rw [zu_k2 (by omega)]; exact hf k j2 hk
              · rw [zu_i (by omega)]; exact hz t ht
              · by_cases e : t = t0
                · subst e; rw [zu_e, if_pos (by omega)]
                · rw [zu_i (by omega), hs t h1 h2]
                  by_cases q3 : t < t0
                  · rw [if_pos q3, if_pos (by omega)]
                  · rw [if_neg q3, if_neg (by omega)]
    · rw [nI_add, e45, zn_cl (n := B + wt w) (by omega)]
      refine ⟨vp_in_nI (by omega) (by decide), ?_⟩
      rintro _ rfl
      refine h _ (fun k j hk => ?_) (fun t ht => ?_)
      · rw [zu_k2 (by omega)]; exact hf k j hk
      · rw [zk_T_end (by omega) (by omega)]
        by_cases e : t = wt w
        · subst e; rw [zu_e, if_pos rfl]; rfl
        · rw [zu_i (by omega), if_neg e]; exact hz t ht
  · rw [nI_add, e45, zn_cl (n := B + i) (by omega)]
    refine ⟨vp_in_nI (by omega) (by decide), ?_⟩
    rintro _ rfl _ rfl
    refine ⟨⟨i + 1, by omega, nI_1 i, rfl, fun k j hk => ?_, fun t ht => ?_⟩, zz_down (n := 73) (by omega) (by omega)⟩
    · rw [zu_k2 (by omega)]; exact hf k j hk
    · by_cases e : t = i
      · subst e; rw [zu_e]; rfl
      · rw [zu_i (by omega)]; exact hz t (by omega)
/-- the table stands -/
def zk_en (un nw : Nat) (sp wt : Nat → Nat) (op fo : Nat → Nat → Bool) (om' : Nat → Nat) (I : zz_I) (M : zz_L) : Prop := I 45 0 = 14016 ∧ (∀ w, w < nw → I 46 w = nI (wt w) ∧ 1 ≤ wt w ∧ wt w ≤ 9) ∧ ∀ u w, (om' u).testBit w = true → ∀ t, t < 73 → M 45 ((u * 8 + w) * 73 + t) = lN (zk_T un nw sp wt op fo u w t)
theorem zs_build36 {I : zz_I} {L : zz_L} {P : zz_I → zz_L → Prop} (hc : zk_ch I un nw sp fo om') (hop : zk_op un nw sp fo op om') (hwt : ∀ w, w < nw → I 46 w = nI (wt w) ∧ 1 ≤ wt w ∧ wt w ≤ 9) (h45 : I 45 0 = 14016) (h : ∀ M : zz_L, (∀ k j, k ≠ 45 → M k j = L k j) → zk_en un nw sp wt op fo om' I M → P I M) : zp_X3_buildn_36 P (nI un - 1) I L := by
  obtain ⟨c6, c7, h24, h8, hw, hm, hin⟩ := id hc
  refine ⟨fun y J M => ∃ i : Nat, i ≤ un ∧ y = nI i - 1 ∧ I = J ∧ (∀ k j, k ≠ 45 → M k j = L k j) ∧ (∀ u w, i ≤ u → (om' u).testBit w = true → ∀ t, t < 73 → M 45 ((u * 8 + w) * 73 + t) = lN (zk_T un nw sp wt op fo u w t)), fun y _ _ => (y + 1).toNatClampNeg, ⟨un, by omega, rfl, rfl, fun _ _ _ => rfl, fun u w hu q => ?_⟩, ?_⟩
  · have h1 := hin u w q
    have := (hw w h1.1).2.1
    omega
  rintro y J M ⟨i, hi, rfl, rfl, hf, hb⟩
  unfold zp_X3_buildn_36b
  cases i with
  | zero => exact ⟨fun _ => h M hf ⟨h45, hwt, fun u w => hb u w (by omega)⟩, fun c => absurd zz_neg0 c⟩
  | succ n =>
    rw [nI_pred n]
    refine ⟨fun c => absurd c (nI_pos (by omega)), fun _ => ?_⟩
    refine ⟨fun y J M => ∃ j : Nat, j ≤ nw ∧ y = nI j ∧ I = J ∧ (∀ k j, k ≠ 45 → M k j = L k j) ∧ (∀ u w, (n + 1 ≤ u ∨ (u = n ∧ w < j)) → (om' u).testBit w = true → ∀ t, t < 73 → M 45 ((u * 8 + w) * 73 + t) = lN (zk_T un nw sp wt op fo u w t)), fun y _ _ => 8 - y.toNatClampNeg, ⟨0, by omega, rfl, rfl, hf, fun u w q => hb u w (by omega)⟩, ?_⟩
    clear hb hf
    rintro y J M ⟨j, hj, rfl, rfl, hf, hb⟩
    unfold zp_X3_buildn_43b
    refine pk_le nw j (fun c => ?_) (fun c => ?_) (hx := c7)
    · rintro _ rfl
      refine ⟨⟨n, by omega, zz_m1 _, rfl, hf, fun u w q1 q2 => ?_⟩, zz_dec (by omega)⟩
      have := (hin u w q2).1
      exact hb u w (by omega) q2
    · have on := hm n (by omega)
      refine zs_isOpen on.1 on.2 (by omega) (by omega) (zb_br (fun q => ?_) (fun q => ?_))
      · rintro _ rfl
        refine ⟨⟨j + 1, by omega, nI_1 j, rfl, hf, fun u w q1 q2 => ?_⟩, zz_down (n := 8) (by omega) (by omega)⟩
        by_cases e : u = n ∧ w = j
        · obtain ⟨rfl, rfl⟩ := e
          rw [q] at q2; cases q2
        · exact hb u w (by omega) q2
      · refine zs_fillRow hc hop hwt h45 q (fun x v q1 q2 => hb x v (Or.inl (by omega)) q2) (fun K kf kb => ?_)
        rintro _ rfl
        refine ⟨⟨j + 1, by omega, nI_1 j, rfl, fun k i2 hk => ?_, fun u w q1 q2 t ht => ?_⟩, zz_down (n := 8) (by omega) (by omega)⟩
        · rw [kf k i2 (by omega)]; exact hf k i2 hk
        · by_cases e : u = n ∧ w = j
          · obtain ⟨rfl, rfl⟩ := e
            exact kb t ht
          · have := (hin u w q2).1
            rw [kf 45 _ (by omega)]
            exact hb u w (by omega) q2 t ht
end
