theorem zt_sum_tail {n j : Nat} {f : Nat → Nat} (hj : j ≤ n) (h : ∀ i, j ≤ i → i < n → f i = 0) : zt_sum n f = zt_sum j f := by
  induction n with
  | zero => have : j = 0 := by omega
            subst this; rfl
  | succ n ih =>
    by_cases e : j = n + 1
    · rw [e]
    · simp only [zt_sum]
      rw [ih (by omega) (fun i h1 h2 => h i h1 (by omega)), h n (by omega) (by omega), Nat.add_zero]
theorem zs_sumTails {I : zz_I} {L : zz_L} {un nw : Nat} {sp : Nat → Nat} {fo : Nat → Nat → Bool} {om : Nat → Nat} {P : Int64 → Prop} (hc : zk_ch I un nw sp fo om) {u s : Nat} (hu : u < 25) (hs : s < 256) {g : Nat → Nat} (ht : ∀ w, (om u).testBit w = true → s.testBit w = true → L 43 (u * 8 + w) = lN (g w)) (h : P (lN (zt_sum nw (fun w => if (om u).testBit w && s.testBit w then g w else 0)))) : zp_X0_sumTails (nI u) (nI s) P I L := by
  obtain ⟨c6, c7, h24, h8, hw, hm, hin⟩ := hc
  have ou := hm u hu
  have hl := zy_and_lt (a := om u) hs
  unfold zp_X0_sumTails
  refine ⟨vp_in_nI hu (by decide), ?_⟩
  rw [zn_cl (by omega), ou.1, zy_and ou.2 hs]
  rintro _ rfl
  refine ⟨fun y4 y6 => ∃ j, j ≤ nw ∧ y6 = nI j ∧ y4 = lN (zt_sum j (fun w => if (om u).testBit w && s.testBit w then g w else 0)), fun _ y6 => 8 - y6.toNatClampNeg, ⟨0, by omega, rfl, rfl⟩, ?_⟩
  rintro y4 y6 ⟨j, hj, rfl, rfl⟩
  unfold zp_X0_sumTails_15b
  refine pk_le nw j (fun c => ?_) (fun c => ?_) (hx := c7)
  · have : j = nw := by omega
    subst this; exact h
  · refine zy_sh hl (by omega) (fun q => ?_) (zy_bit hl (by omega) (fun q => ?_) (fun q => ?_))
    · rw [zt_sum_tail (j := j) (by omega)] at h
      · exact h
      · intro i h1 _
        have := q i h1
        rw [Nat.testBit_and] at this
        rw [this]; rfl
    · rintro _ rfl
      refine ⟨⟨j + 1, by omega, nI_1 j, ?_⟩, zz_down (by omega) (by omega)⟩
      rw [Nat.testBit_and] at q
      simp only [zt_sum]; rw [q]; rfl
    · rw [Nat.testBit_and, Bool.and_eq_true] at q
      rw [show nI u * (8 : Int32) = nI (u * 8) from pk_mul u 8, nI_add, zn_cl (by omega), ht j q.1 q.2, lN_add]
      refine ⟨vp_in_nI (by omega) (by decide), ?_⟩
      rintro _ rfl _ rfl
      refine ⟨⟨j + 1, by omega, nI_1 j, ?_⟩, zz_down (by omega) (by omega)⟩
      simp only [zt_sum]; rw [q.1, q.2]; rfl
theorem zs_countFrom {I : zz_I} {L : zz_L} {un nw : Nat} {sp : Nat → Nat} {fo : Nat → Nat → Bool} {om : Nat → Nat} {P : Int64 → zz_I → zz_L → Prop} (hc : zk_ch I un nw sp fo om) {s : Nat} (hs : s < 256) (h : ∀ M : zz_L, (∀ k j, k ≠ 43 → M k j = L k j) → (∀ u w, (om u).testBit w = true → s.testBit w = true → M 43 (u * 8 + w) = lN (zk_N un nw sp (fun u w => (om u).testBit w && s.testBit w) fo u w)) → P (lN (zk_A un nw sp (fun u w => (om u).testBit w && s.testBit w) fo)) I M) : zp_X0_countFrom (nI s) P I L := by
  have hc' := hc
  obtain ⟨c6, c7, h24, h8, hw, hm, hin⟩ := hc'
  rintro _ rfl
  rw [c6]
  refine ⟨fun y J M => ∃ i : Nat, i ≤ un ∧ y = nI i - 1 ∧ I = J ∧ (∀ k j, k ≠ 43 → M k j = L k j) ∧ (∀ u w, i ≤ u → (om u).testBit w = true → s.testBit w = true → M 43 (u * 8 + w) = lN (zk_N un nw sp (fun u w => (om u).testBit w && s.testBit w) fo u w)), fun y _ _ => (y + 1).toNatClampNeg, ⟨un, by omega, rfl, rfl, fun _ _ _ => rfl, fun u w hu q => ?_⟩, ?_⟩
  · have h1 := hin u w q
    have := (hw w h1.1).2.1
    omega
  rintro y J M ⟨i, hi, rfl, rfl, hf, hb⟩
  unfold zp_X0_countFrom_7b
  cases i with
  | zero =>
    refine ⟨fun _ => ?_, fun c => absurd zz_neg0 c⟩
    exact zs_sumTails (u := 0) hc (by omega) hs (fun w q1 q2 => hb 0 w (by omega) q1 q2) (h M hf (fun u w => hb u w (by omega)))
  | succ n =>
    rw [nI_pred n]
    refine ⟨fun c => absurd c (nI_pos (by omega)), fun _ => ⟨vp_in_nI (by omega) (by decide), ?_⟩⟩
    have on := hm n (by omega)
    have hl := zy_and_lt (a := om n) hs
    rw [zn_cl (by omega), on.1, zy_and on.2 hs]
    rintro _ rfl
    refine ⟨fun y J M => ∃ j : Nat, j ≤ nw ∧ y = nI j ∧ I = J ∧ (∀ k j, k ≠ 43 → M k j = L k j) ∧ (∀ u w, (n + 1 ≤ u ∨ (u = n ∧ w < j)) → (om u).testBit w = true → s.testBit w = true → M 43 (u * 8 + w) = lN (zk_N un nw sp (fun u w => (om u).testBit w && s.testBit w) fo u w)), fun y _ _ => 8 - y.toNatClampNeg, ⟨0, by omega, rfl, rfl, hf, fun u w q => hb u w (by omega)⟩, ?_⟩
    clear hb hf
    rintro y J M ⟨j, hj, rfl, rfl, hf, hb⟩
    unfold zp_X0_countFrom_23b
    have out : (∀ w, (om n).testBit w = true → s.testBit w = true → w < j) → ∀ v103 : Int32, v103 = nI n + (-1 : Int32) → (∃ i : Nat, i ≤ un ∧ v103 = nI i - 1 ∧ I = I ∧ (∀ k j, k ≠ 43 → M k j = L k j) ∧ (∀ u w, i ≤ u → (om u).testBit w = true → s.testBit w = true → M 43 (u * 8 + w) = lN (zk_N un nw sp (fun u w => (om u).testBit w && s.testBit w) fo u w))) ∧ (v103 + 1).toNatClampNeg < (nI n + 1).toNatClampNeg := by
      rintro q _ rfl
      refine ⟨⟨n, by omega, zz_m1 _, rfl, hf, fun u w q1 q2 q3 => ?_⟩, zz_dec (by omega)⟩
      by_cases e : u = n
      · subst e; exact hb u w (Or.inr ⟨rfl, q w q2 q3⟩) q2 q3
      · exact hb u w (by omega) q2 q3
    refine pk_le nw j (fun c => out (fun w q _ => ?_)) (fun c => ?_) (hx := c7)
    · have := hin n w q; omega
    · refine zy_sh hl (by omega) (fun q => out (fun w q1 q2 => ?_)) (zy_bit hl (by omega) (fun q => ?_) (fun q => ?_))
      · by_cases e : w < j
        · exact e
        · have := q w (by omega)
          rw [Nat.testBit_and, q1, q2] at this; cases this
      · rintro _ rfl
        refine ⟨⟨j + 1, by omega, nI_1 j, rfl, hf, fun u w q1 q2 q3 => ?_⟩, zz_down (by omega) (by omega)⟩
        by_cases e : u = n ∧ w = j
        · obtain ⟨rfl, rfl⟩ := e
          rw [Nat.testBit_and, q2, q3] at q; cases q
        · exact hb u w (by omega) q2 q3
      · rw [Nat.testBit_and, Bool.and_eq_true] at q
        obtain ⟨s41, s2, s15, s40⟩ := hw j c
        have hle := (hin n j q.1).2
        have go : ∀ r : Int64, r = lN (zk_N un nw sp (fun u w => (om u).testBit w && s.testBit w) fo n j) → vp_in ((nI n * (8 : Int32)) + nI j) 200 ∧ (∀ L96 : zz_L, L96 = zz_up M 43 ((nI n * (8 : Int32)) + nI j).toNatClampNeg r → (∀ v97 : Int32, v97 = nI j + (1 : Int32) → (∃ j2 : Nat, j2 ≤ nw ∧ v97 = nI j2 ∧ I = I ∧ (∀ k j, k ≠ 43 → L96 k j = L k j) ∧ (∀ u w, (n + 1 ≤ u ∨ (u = n ∧ w < j2)) → (om u).testBit w = true → s.testBit w = true → L96 43 (u * 8 + w) = lN (zk_N un nw sp (fun u w => (om u).testBit w && s.testBit w) fo u w))) ∧ 8 - v97.toNatClampNeg < 8 - (nI j).toNatClampNeg)) := by
          intro r er
          rw [show nI n * (8 : Int32) = nI (n * 8) from pk_mul n 8, nI_add, zn_cl (by omega)]
          refine ⟨vp_in_nI (by omega) (by decide), ?_⟩
          rintro _ rfl _ rfl
          refine ⟨⟨j + 1, by omega, nI_1 j, rfl, fun k j2 hk => (zu_k hk).trans (hf k j2 hk), fun u w q1 q2 q3 => ?_⟩, zz_down (by omega) (by omega)⟩
          have hw8 := (hin u w q2).1
          by_cases e : u = n ∧ w = j
          · obtain ⟨rfl, rfl⟩ := e
            rw [zu_e]; exact er
          · rw [zu_i (by omega)]; exact hb u w (by omega) q2 q3
        refine zs_nextUnit s41 (by omega) ?_
        rw [c6]
        refine pk_le (n + sp j + 1) un (fun c1 => ⟨vp_in_nI (by omega) (by decide), ?_⟩) (fun c1 => ?_)
        · rw [zn_cl (by omega), s40, zy_and (zy_mk_256 h8) hs]
          refine zs_sumTails (g := fun v => zk_N un nw sp (fun u w => (om u).testBit w && s.testBit w) fo (n + sp j + 1) v) hc (by omega) (zy_and_lt hs) (fun w q1 q2 => ?_) (go _ ?_)
          · rw [Nat.testBit_and, Bool.and_eq_true] at q2
            exact hb _ w (Or.inl (by omega)) q1 q2.2
          · rw [zk_N_on (by omega) (by omega)]
            congr 1
            refine zt_sum_congr (fun v hv => ?_)
            rw [Nat.testBit_and, zy_mk_bit]
            simp only [hv, decide_true, Bool.true_and]
            cases (om (n + sp j + 1)).testBit v <;> cases s.testBit v <;> cases fo j v <;> rfl
        · exact go _ (by rw [zk_N_end (by omega) (by omega)]; rfl)
/-- the chart's places against those that are open at all -/
def zk_op (un nw : Nat) (sp : Nat → Nat) (fo op : Nat → Nat → Bool) (om' : Nat → Nat) : Prop :=
  (∀ u w, (om' u).testBit w = true → w < nw ∧ op u w = true) ∧ (∀ w, w < nw → op 0 w = true → 0 < zk_N un nw sp op fo 0 w → (om' 0).testBit w = true) ∧
  ∀ u w v, (om' u).testBit w = true → v < nw → op (u + sp w + 1) v = true → fo w v = true → 0 < zk_N un nw sp op fo (u + sp w + 1) v → (om' (u + sp w + 1)).testBit v = true
theorem zk_op_of {un nw : Nat} {sp : Nat → Nat} {fo op : Nat → Nat → Bool} {om' : Nat → Nat} (h : zk_pr un nw sp fo (fun u => zy_mk nw (op u)) om') : zk_op un nw sp fo op om' := by
  obtain ⟨p1, p2, p3⟩ := h
  have hN : ∀ u w, zk_N un nw sp (fun u w => (zy_mk nw (op u)).testBit w) fo u w = zk_N un nw sp op fo u w := fun u w => zk_N_congr (fun u w hw => by rw [zy_mk_bit]; simp [hw]) (un - u) u w (Nat.le_refl _)
  refine ⟨fun u w q => ?_, fun w hw q1 q2 => ?_, fun u w v q1 hv q2 q3 q4 => ?_⟩
  · have := p1 u w q
    rw [zy_mk_bit, Bool.and_eq_true, decide_eq_true_eq] at this
    exact this
  · refine p2 w ?_ ?_
    · rw [zy_mk_bit, q1]; simp [hw]
    · rw [hN]; exact q2
  · refine p3 u w v q1 ?_ q3 ?_
    · rw [zy_mk_bit, q2]; simp [hv]
    · rw [hN]; exact q4
section
variable {un nw : Nat} {sp : Nat → Nat} {fo op : Nat → Nat → Bool} {om' : Nat → Nat}
theorem zk_A_op (h : zk_op un nw sp fo op om') (s : Nat → Bool) : zk_A un nw sp (fun u w => (om' u).testBit w && s w) fo = zk_A un nw sp (fun u w => op u w && s w) fo := by
  obtain ⟨p1, p2, p3⟩ := h
  have hmo : ∀ u w, zk_N un nw sp (fun u w => op u w && s w) fo u w ≤ zk_N un nw sp op fo u w := fun u w => zk_N_mono (fun u w q => by rw [Bool.and_eq_true] at q; exact q.1) (un - u) u w (Nat.le_refl _)
  refine zk_A_sub (fun u w q => ?_) (fun w hw q1 q2 => ?_) (fun u w v q1 hv q2 q3 q4 => ?_)
  · rw [Bool.and_eq_true] at q ⊢; exact ⟨(p1 u w q.1).2, q.2⟩
  · rw [Bool.and_eq_true] at q1 ⊢
    exact ⟨p2 w hw q1.1 (Nat.lt_of_lt_of_le q2 (hmo _ _)), q1.2⟩
  · rw [Bool.and_eq_true] at q1 q2 ⊢
    exact ⟨p3 u w v q1.1 hv q2.1 q3 (Nat.lt_of_lt_of_le q4 (hmo _ _)), q2.2⟩
theorem zk_N_op (h : zk_op un nw sp fo op om') (s : Nat → Bool) {u w : Nat} (hb : (om' u).testBit w = true) (hs : s w = true) : zk_N un nw sp (fun u w => (om' u).testBit w && s w) fo u w = zk_N un nw sp (fun u w => op u w && s w) fo u w := by
  obtain ⟨p1, p2, p3⟩ := h
  have hmo : ∀ u w, zk_N un nw sp (fun u w => op u w && s w) fo u w ≤ zk_N un nw sp op fo u w := fun u w => zk_N_mono (fun u w q => by rw [Bool.and_eq_true] at q; exact q.1) (un - u) u w (Nat.le_refl _)
  refine zk_N_sub (op' := fun u w => (om' u).testBit w && s w) (op := fun u w => op u w && s w) (fun u w q => ?_) (fun u w v q1 hv q2 q3 q4 => ?_) (un - u) u w (Nat.le_refl _) (by rw [hb, hs]; rfl)
  · rw [Bool.and_eq_true] at q ⊢; exact ⟨(p1 u w q.1).2, q.2⟩
  · rw [Bool.and_eq_true] at q1 q2 ⊢
    exact ⟨p3 u w v q1.1 hv q2.1 q3 (Nat.lt_of_lt_of_le q4 (hmo _ _)), q2.2⟩
end
/-- what a count leaves in the class -/
def zk_st (I J : zz_I) (L M : zz_L) (un nw : Nat) (sp : Nat → Nat) (fo op : Nat → Nat → Bool) (om' : Nat → Nat) (um : Nat) : Prop :=
  (∀ k j, (k < 37 ∨ 41 < k) → J k j = I k j) ∧ (∀ k j, k ≠ 43 → M k j = L k j) ∧ zk_ch J un nw sp fo om' ∧ zk_op un nw sp fo op om' ∧ J 37 8 = nI um ∧ um < 256 ∧ (∀ w, um.testBit w = true ↔ ∃ u, u < un ∧ (om' u).testBit w = true) ∧ ∀ u w, (om' u).testBit w = true → M 43 (u * 8 + w) = lN (zk_N un nw sp op fo u w)
theorem zs_countP {I J : zz_I} {L : zz_L} {un nw : Nat} {sp : Nat → Nat} {fo op : Nat → Nat → Bool} {P : Int64 → zz_I → zz_L → Prop} (hf : ∀ k j, (k < 37 ∨ 41 < k) → J k j = I k j) (hc : zk_ch J un nw sp fo (fun u => zy_mk nw (op u))) (h : ∀ (J : zz_I) (M : zz_L) (om' : Nat → Nat) (um : Nat), zk_st I J L M un nw sp fo op om' um → P (lN (zk_A un nw sp op fo)) J M) : zp_X0_prune (fun I7 L7 => zp_X0_countFrom (I7 37 8) (fun r15 I15 L15 => P r15 I15 L15) I7 L7) J L := by
  refine zs_prune hc (fun K om' um kf kc kp k8 ku kb => ?_)
  have ko := zk_op_of kp
  obtain ⟨c6, c7, h24, h8, hw, hm, hin⟩ := id kc
  rw [k8]
  refine zs_countFrom kc ku (fun M mf mb => ?_)
  have hs : (fun u w => (om' u).testBit w && um.testBit w) = fun u w => (om' u).testBit w && (fun _ => true) w := by
    funext u w
    cases q : (om' u).testBit w
    · rfl
    · have h1 := hin u w q
      have h2 := (hw w h1.1).2.1
      have : um.testBit w = true := (kb w).mpr ⟨u, by omega, q⟩
      rw [this]
  have ht : (fun u w => op u w && (fun _ => true) w) = op := by funext u w; exact Bool.and_true _
  have hA : zk_A un nw sp (fun u w => (om' u).testBit w && um.testBit w) fo = zk_A un nw sp op fo := by rw [hs, zk_A_op ko (fun _ => true), ht]
  rw [hA]
  refine h K M om' um ⟨fun k j hk => (kf k j (by omega)).trans (hf k j hk), mf, kc, ko, k8, ku, kb, fun u w q => ?_⟩
  have h1 := hin u w q
  have h2 := (hw w h1.1).2.1
  rw [mb u w q ((kb w).mpr ⟨u, by omega, q⟩), hs, zk_N_op ko (fun _ => true) q rfl, ht]
theorem zs_countAll {t : Nat} {I : zz_I} {L : zz_L} {lx : Nat → Nat → Nat} {pg : Nat → Nat} {P : Int64 → zz_I → zz_L → Prop} (ht : t < 34) (hl : zx_lexOK lx) (hp : zx_pgOK lx pg) (lC : zx_lexC 14 I lx) (pC : zx_pgC t I lx pg) (h : ∀ (J : zz_I) (M : zz_L) (om' : Nat → Nat) (um : Nat), zk_st I J L M (pg 0) (lx 0 0) (zx_sp lx) (zx_fo lx pg) (zx_fit lx pg) om' um → P (lN (zk_A (pg 0) (lx 0 0) (zx_sp lx) (zx_fit lx pg) (zx_fo lx pg))) J M) : zp_X0_countAll t P I L :=
  zs_lay ht hl hp lC pC (fun _ hf hc => zs_countP hf hc h)
