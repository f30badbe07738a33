/-! the rank of a reading: the class counts those before it -/
def zk_VV (un nw : Nat) (sp wt : Nat → Nat) (op opc fo g : Nat → Nat → Bool) (t r : Nat) : Nat → Nat := fun n => zt_sum n (fun i => zt_sum (zk_wd un nw sp wt op fo g t r i) (zk_Q un nw sp wt opc fo g (zk_at un nw sp wt op fo g t r i)))
section
variable {un nw : Nat} {sp wt : Nat → Nat} {op opc fo g : Nat → Nat → Bool} {om' : Nat → Nat}
theorem zs_rankOfPath {I : zz_I} {L : zz_L} {P : Int64 → Prop} {um t r n : Nat} (hc : zk_ch I un nw sp fo om') (hop : zk_op un nw sp fo opc om') (he : zk_en un nw sp wt opc fo om' I L) (hin : ∀ u w, w < nw → op u w = true → u + sp w ≤ un) (hg : ∀ a w, a < nw → g a w = fo a w) (hg8 : ∀ w, g 8 w = true) (hle : ∀ u w, op u w = true → opc u w = true) (h378 : I 37 8 = nI um) (hu256 : um < 256) (hum : ∀ w, (om' 0).testBit w = true → um.testBit w = true) (ht : t ≤ 72) (h0 : r < zk_HV un nw sp wt op fo g 0 8 t) (hfin : zk_fin un nw sp wt op fo g t r n) (hn : n ≤ 8) (h444 : I 44 4 = nI t) (h443 : I 44 3 = nI n) (h47 : ∀ j, j < n → I 47 j = nI (zk_wd un nw sp wt op fo g t r j)) (h : P (lN (zk_U un nw sp wt opc fo t + zk_VV un nw sp wt op opc fo g t r n))) : zp_X3_rankOfPath P I L := by
  obtain ⟨c6, c7, h24, h8, hw, hm, hin2⟩ := id hc
  refine ⟨fun y2 y4 => ∃ s : Nat, t ≤ s ∧ s ≤ 72 ∧ y4 = nI s ∧ y2 = lN (zk_U un nw sp wt opc fo s), fun _ y4 => y4.toNatClampNeg, ⟨72, ht, by omega, rfl, by rw [zk_U_72]; rfl⟩, ?_⟩
  rintro y2 y4 ⟨s, hs, hs72, rfl, rfl⟩
  unfold zp_X3_rankOfPath_6b
  refine pk_le s t (fun c => ?_) (fun c => ?_) (hy := h444)
  · have : s = t := by omega
    subst this
    rw [h444, h378]
    rintro _ rfl _ rfl
    refine ⟨fun y2 y4 y5 y6 y7 => ∃ i : Nat, i ≤ n ∧ y7 = nI i ∧ y4 = nI (zk_at un nw sp wt op fo g s r i).1 ∧ y5 = nI (zk_at un nw sp wt op fo g s r i).2.2.1 ∧ y6 = nI (zk_sb un nw sp wt op fo g s r um i) ∧ (zk_at un nw sp wt op fo g s r i).1 ≤ 40 ∧ y2 = lN (zk_U un nw sp wt opc fo s + zk_VV un nw sp wt op opc fo g s r i), fun _ _ _ _ y7 => 9 - y7.toNatClampNeg, ⟨0, by omega, rfl, rfl, rfl, rfl, Nat.zero_le _, rfl⟩, ?_⟩
    rintro y2 y4 y5 y6 y7 ⟨i, hi, rfl, rfl, rfl, rfl, h40, rfl⟩
    unfold zp_X3_rankOfPath_49b
    refine pk_le n i (fun c1 => ?_) (fun c1 => ?_) (hx := h443)
    · have : i = n := by omega
      subst this
      exact h
    · have c2 := hfin.1 i c1
      refine pk_le un (zk_at un nw sp wt op fo g s r i).1 (fun z => absurd z (by omega)) (fun _ => ?_) (hx := c6)
      obtain ⟨k1, k2, k3, k4, k5, k6⟩ := zk_wd_ok hin hg h0 c2
      have kw := zk_T_wt k6
      have hle2 := zk_at_le (un := un) (nw := nw) (sp := sp) (wt := wt) (op := op) (fo := fo) (g := g) (t := s) (r := r) i
      have hst := zk_at_h (um := um) hin hg hg8 h0 hle hop hum i c2
      have hsb := zk_sb_lt (un := un) (sp := sp) (wt := wt) (op := op) (fo := fo) (g := g) (t := s) (r := r) h8 hu256 i
      have hQd : ∀ w, w < nw → zk_Qd un nw sp wt opc fo om' (zk_at un nw sp wt op fo g s r i).1 (zk_sb un nw sp wt op fo g s r um i) (zk_at un nw sp wt op fo g s r i).2.2.1 w = zk_Q un nw sp wt opc fo g (zk_at un nw sp wt op fo g s r i) w := fun w hw' => zk_Qc (g := g) (a := (zk_at un nw sp wt op fo g s r i).2.1) (rest := (zk_at un nw sp wt op fo g s r i).2.2.2) hop hst.1 hst.2 hw'
      have hV : zk_VV un nw sp wt op opc fo g s r (i + 1) = zk_VV un nw sp wt op opc fo g s r i + zt_sum (zk_wd un nw sp wt op fo g s r i) (zk_Q un nw sp wt opc fo g (zk_at un nw sp wt op fo g s r i)) := rfl
      have a1 := zk_at_1 (un := un) (nw := nw) (sp := sp) (wt := wt) (op := op) (fo := fo) (g := g) (t := s) (r := r) (i := i)
      have a3 := zk_at_3 (un := un) (nw := nw) (sp := sp) (wt := wt) (op := op) (fo := fo) (g := g) (t := s) (r := r) (i := i)
      have asb : zk_sb un nw sp wt op fo g s r um (i + 1) = zy_mk nw (fo (zk_wd un nw sp wt op fo g s r i)) := rfl
      have h47i := h47 i c1
      obtain ⟨W, eW⟩ : ∃ W, W = zk_wd un nw sp wt op fo g s r i := ⟨_, rfl⟩
      obtain ⟨Q, eQ⟩ : ∃ Q, Q = zk_Q un nw sp wt opc fo g (zk_at un nw sp wt op fo g s r i) := ⟨_, rfl⟩
      rw [← eW] at k1 kw hV a1 a3 asb h47i
      rw [← eQ] at hV hQd
      obtain ⟨s41, s2, s15, s40⟩ := hw W k1
      refine ⟨fun y2 y8 => ∃ j : Nat, j ≤ W ∧ y8 = nI j ∧ y2 = lN (zk_U un nw sp wt opc fo s + zk_VV un nw sp wt op opc fo g s r i + zt_sum j Q), fun _ y8 => 9 - y8.toNatClampNeg, ⟨0, by omega, rfl, rfl⟩, ?_⟩
      rintro y2 y8 ⟨j, hj, rfl, rfl⟩
      unfold zp_X3_rankOfPath_70b
      rw [zn_cl (n := i) (by omega), h47i, zn_cl (n := W) (by omega), (he.2.1 W k1).1, s40, pk_sub kw]
      refine ⟨vp_in_nI (by omega) (by decide), pk_le W j (fun c3 => ?_) (fun c3 => ?_)⟩
      · have : j = W := by omega
        subst this
        refine ⟨vp_in_nI (by omega) (by decide), vp_in_nI (by omega) (by decide), ?_⟩
        rintro _ rfl
        refine ⟨vp_in_nI (by omega) (by decide), vp_in_nI (by omega) (by decide), ?_⟩
        rintro _ rfl
        refine ⟨vp_in_nI (by omega) (by decide), zs_nextUnit s41 (by omega) ?_⟩
        rintro _ rfl
        refine ⟨⟨i + 1, by omega, nI_1 i, by rw [a1], by rw [a3], by rw [asb], by rw [a1]; omega, by rw [hV, Nat.add_assoc]⟩, zz_down (i := i) (n := 9) (by omega) (by omega)⟩
      · refine zs_endsOf hc he (by omega) (by omega) hsb (by omega) ?_
        rw [hQd j (by omega), lN_add]
        rintro _ rfl _ rfl
        refine ⟨⟨j + 1, by omega, nI_1 j, ?_⟩, zz_down (i := j) (n := 9) (by omega) (by omega)⟩
        simp only [zt_sum]
        rw [Nat.add_assoc]
  · obtain ⟨s', rfl⟩ : ∃ s', s = s' + 1 := ⟨s - 1, by omega⟩
    refine zs_cww hc hop he (t := s' + 1) (by omega) ?_
    rw [lN_add, ← zk_U_step (by omega)]
    rintro _ rfl _ rfl
    refine ⟨⟨s', by omega, by omega, pk_m1 s', rfl⟩, ?_⟩
    show (nI (s' + 1) + (-1 : Int32)).toNatClampNeg < (nI (s' + 1)).toNatClampNeg
    rw [pk_m1, zn_cl (by omega), zn_cl (by omega)]; omega
end
section
variable {I : zz_I} {L : zz_L} {lx : Nat → Nat → Nat} {pg : Nat → Nat} {n : Nat} {sw su si : Nat → Nat} {op : Nat → Nat → Bool}
theorem zs_aheadOf {P : Int64 → zz_I → zz_L → Prop} {t r m : Nat} (hl : zx_lexOK lx) (hp : zx_pgOK lx pg) (hm : zx_mm I lx pg n sw su si) (hin : ∀ u w, w < lx 0 0 → op u w = true → u + zx_sp lx w ≤ pg 0) (ht : t ≤ 72) (h0 : r < zk_HV (pg 0) (lx 0 0) (zx_sp lx) (fun w => pg (11 + w)) op (zx_fo lx pg) (zx_g I 14 lx pg) 0 8 t) (hfin : zk_fin (pg 0) (lx 0 0) (zx_sp lx) (fun w => pg (11 + w)) op (zx_fo lx pg) (zx_g I 14 lx pg) t r m) (hm8 : m ≤ 8) (e34 : I 0 34 = nI t) (e33 : I 0 33 = nI m) (e25 : ∀ j, j < m → I 25 j = nI (zk_wd (pg 0) (lx 0 0) (zx_sp lx) (fun w => pg (11 + w)) op (zx_fo lx pg) (zx_g I 14 lx pg) t r j)) (h : ∀ M : zz_L, (∀ k j, k ≠ 22 → M k j = L k j) → P (lN (zk_U (pg 0) (lx 0 0) (zx_sp lx) (fun w => pg (11 + w)) (zx_fit lx pg) (zx_fo lx pg) t + zk_VV (pg 0) (lx 0 0) (zx_sp lx) (fun w => pg (11 + w)) op (zx_fit lx pg) (zx_fo lx pg) (zx_g I 14 lx pg) t r m)) I M) : zp_X8_aheadOf 14 P I L := by
  have h8 := hl.1
  have h24 := hp.1
  have hsp : ∀ w, w < lx 0 0 → 2 ≤ zx_sp lx w := fun w hw => (zx_sp_bd hl hw).1
  refine zs_layHeavy (b := false) hl hp hm (fun M mf hF => ?_)
  have h' := h M mf
  clear h mf
  obtain ⟨lM, pM, hk, -⟩ := id hm
  rw [zx_os_0] at hF
  obtain ⟨g, eg⟩ : ∃ g, g = zx_g I 14 lx pg := ⟨_, rfl⟩
  have hg : ∀ a w, a < lx 0 0 → g a w = zx_fo lx pg a w := fun a w ha => by rw [eg]; exact zx_gw h8 ha
  have hg8 : ∀ w, g 8 w = true := fun w => by rw [eg]; exact zx_g8
  rw [← eg] at hF h0 hfin e25 h'
  obtain ⟨U, eU⟩ : ∃ U, U = zk_U (pg 0) (lx 0 0) (zx_sp lx) (fun w => pg (11 + w)) (zx_fit lx pg) (zx_fo lx pg) := ⟨_, rfl⟩
  obtain ⟨W, eW⟩ : ∃ W, W = zk_W (pg 0) (lx 0 0) (zx_sp lx) (fun w => pg (11 + w)) (zx_fit lx pg) (zx_fo lx pg) := ⟨_, rfl⟩
  have hU72 : U 72 = 0 := by rw [eU]; exact zk_U_72
  have hUs : ∀ t, t < 72 → U t = U (t + 1) + W (t + 1) := fun t ht => by rw [eU, eW]; exact zk_U_step ht
  have hW : ∀ t, t < 73 → M 22 (584 + t) = lN (W t) := fun t ht => by
    have := hF 0 8 t (by omega) (by omega) ht
    rw [zk_HV_W hg8] at this
    rw [eW, ← this]
  rw [← eU] at h'
  clear eU eW
  rw [e34, show nI t + (1 : Int32) = nI (t + 1) from nI_1 t]
  rintro _ rfl
  refine ⟨fun y2 y4 => ∃ s q : Nat, t ≤ s ∧ s ≤ 72 ∧ y4 = nI (s + 1) ∧ y2 = lN q ∧ q + U s = U t, fun _ y4 => 73 - y4.toNatClampNeg, ⟨t, 0, by omega, ht, rfl, rfl, Nat.zero_add _⟩, ?_⟩
  rintro y2 y4 ⟨s, q, hs, hs72, rfl, rfl, hq⟩
  unfold zp_X8_aheadOf_16b
  refine pk_le 73 (s + 1) (fun c => ?_) (fun c => ?_)
  · have : s = 72 := by omega
    subst this
    have : q = U t := by omega
    subst this
    rw [e34]
    rintro _ rfl
    obtain ⟨AT, eAT⟩ : ∃ AT, AT = zk_at (pg 0) (lx 0 0) (zx_sp lx) (fun w => pg (11 + w)) op (zx_fo lx pg) g t r := ⟨_, rfl⟩
    obtain ⟨WD, eWD⟩ : ∃ WD, WD = zk_wd (pg 0) (lx 0 0) (zx_sp lx) (fun w => pg (11 + w)) op (zx_fo lx pg) g t r := ⟨_, rfl⟩
    obtain ⟨V, eV⟩ : ∃ V, V = zk_VV (pg 0) (lx 0 0) (zx_sp lx) (fun w => pg (11 + w)) op (zx_fit lx pg) (zx_fo lx pg) g t r := ⟨_, rfl⟩
    have a1 : ∀ i, (AT (i + 1)).1 = (AT i).1 + zx_sp lx (WD i) + 1 := fun i => by rw [eAT, eWD]; rfl
    have a2 : ∀ i, (AT (i + 1)).2.1 = WD i := fun i => by rw [eAT, eWD]; rfl
    have a3 : ∀ i, (AT (i + 1)).2.2.1 = (AT i).2.2.1 - pg (11 + WD i) := fun i => by rw [eAT, eWD]; rfl
    have wok : ∀ i, (AT i).1 < pg 0 → WD i < lx 0 0 ∧ pg (11 + WD i) ≤ (AT i).2.2.1 := fun i hi => by
      rw [eAT] at hi
      have z := zk_wd_ok hin hg h0 hi
      rw [eAT, eWD]
      exact ⟨z.1, zk_T_wt (wt := fun w => pg (11 + w)) z.2.2.2.2.2⟩
    have ale : ∀ i, (AT i).2.2.1 ≤ t := fun i => by rw [eAT]; exact (zk_at_le i).1
    have a0 : AT 0 = (0, 8, t, r) := by rw [eAT]; rfl
    have hal : ∀ j, j < m → (AT j).1 < pg 0 := by rw [eAT]; exact hfin.1
    have hV0 : V 0 = 0 := by rw [eV]; rfl
    have hV : ∀ i, V (i + 1) = V i + zt_sum (WD i) (zk_Q (pg 0) (lx 0 0) (zx_sp lx) (fun w => pg (11 + w)) (zx_fit lx pg) (zx_fo lx pg) g (AT i)) := fun i => by rw [eV, eWD, eAT]; rfl
    rw [← eWD] at e25
    rw [← eV] at h'
    clear eV eWD eAT
    refine ⟨fun y2 y4 y5 y6 y7 => ∃ i : Nat, i ≤ m ∧ y7 = nI i ∧ y4 = nI (AT i).2.2.1 ∧ y5 = nI (AT i).1 ∧ y6 = nI (AT i).2.1 ∧ (AT i).2.1 ≤ 8 ∧ y2 = lN (U t + V i), fun _ _ _ _ y7 => 9 - y7.toNatClampNeg, ⟨0, by omega, rfl, by rw [a0], by rw [a0]; rfl, by rw [a0]; rfl, by rw [a0]; exact Nat.le_refl _, by rw [hV0]; rfl⟩, ?_⟩
    rintro y2 y4 y5 y6 y7 ⟨i, hi, rfl, rfl, rfl, rfl, ha8, rfl⟩
    unfold zp_X8_aheadOf_59b
    refine pk_le m i (fun c1 => ?_) (fun c1 => ?_) (hx := e33)
    · have : i = m := by omega
      subst this
      exact h'
    · have c2 := hal i c1
      obtain ⟨k1, kw⟩ := wok i c2
      have hle2 := ale i
      have e25i := e25 i c1
      have hspw := zx_sp_bd hl k1
      have hVi := hV i
      have a1i := a1 i
      have a2i := a2 i
      have a3i := a3 i
      obtain ⟨Y, eY⟩ : ∃ Y, Y = WD i := ⟨_, rfl⟩
      obtain ⟨Q, eQ⟩ : ∃ Q, Q = zk_Q (pg 0) (lx 0 0) (zx_sp lx) (fun w => pg (11 + w)) (zx_fit lx pg) (zx_fo lx pg) g (AT i) := ⟨_, rfl⟩
      have hQ : ∀ w, Q w = if zx_fit lx pg (AT i).1 w && g (AT i).2.1 w then zk_T (pg 0) (lx 0 0) (zx_sp lx) (fun w => pg (11 + w)) (zx_fit lx pg) (zx_fo lx pg) (AT i).1 w (AT i).2.2.1 else 0 := fun w => by rw [eQ]; rfl
      rw [← eY] at k1 kw e25i hspw hVi a1i a2i a3i
      rw [← eQ] at hVi
      clear eQ
      have e11 : I 14 (11 + Y) = nI (pg (11 + Y)) := by
        have := pM.2.2.2.1 Y k1
        rw [Nat.zero_add] at this; exact this
      refine ⟨fun y2 y8 => ∃ j : Nat, j ≤ Y ∧ y8 = nI j ∧ y2 = lN (U t + V i + zt_sum j Q), fun _ y8 => 9 - y8.toNatClampNeg, ⟨0, by omega, rfl, rfl⟩, ?_⟩
      rintro y2 y8 ⟨j, hj, rfl, rfl⟩
      unfold zp_X8_aheadOf_71b
      rw [zn_cl (n := i) (by omega), e25i, show (11 : Int32) + nI Y = nI (11 + Y) from nI_add 11 Y, zn_cl (n := 11 + Y) (by omega), e11, pk_sub kw]
      refine ⟨vp_in_nI (by omega) (by decide), pk_le Y j (fun c3 => ?_) (fun c3 => ?_)⟩
      · have : j = Y := by omega
        subst this
        refine ⟨vp_in_nI (by omega) (by decide), vp_in_nI (by omega) (by decide), ?_⟩
        rintro _ rfl
        refine ⟨vp_in_nI (by omega) (by decide), zs_unitsOf hl lM k1 ?_⟩
        rw [show nI (zx_sp lx j) + (1 : Int32) = nI (zx_sp lx j + 1) from nI_1 _, nI_add]
        rintro _ rfl
        refine ⟨vp_in_nI (by omega) (by decide), ?_⟩
        rintro _ rfl _ rfl
        refine ⟨⟨i + 1, by omega, nI_1 i, by rw [a3i], by rw [a1i]; rfl, by rw [a2i], by rw [a2i]; omega, by rw [hVi, Nat.add_assoc]⟩, zz_down (i := i) (n := 9) (by omega) (by omega)⟩
      · have stp : ∀ rr : Int64, rr = lN (Q j) → ∀ v114 : Int64, v114 = lN (U t + V i + zt_sum j Q) + rr → ∀ v115 : Int32, v115 = nI j + (1 : Int32) → (∃ j2 : Nat, j2 ≤ Y ∧ v115 = nI j2 ∧ v114 = lN (U t + V i + zt_sum j2 Q)) ∧ 9 - v115.toNatClampNeg < 9 - (nI j).toNatClampNeg := by
          rintro _ rfl _ rfl _ rfl
          refine ⟨⟨j + 1, by omega, nI_1 j, ?_⟩, zz_down (i := j) (n := 9) (by omega) (by omega)⟩
          rw [lN_add]
          simp only [zt_sum]
          rw [Nat.add_assoc]
        refine zs_fits hl hp lM pM hk (by omega) (by omega) ha8 (zb_br (fun y1 => stp (0 : Int64) ?_) (fun y1 => ?_))
        · rw [← eg] at y1
          rw [hQ, y1]; rfl
        · rw [← eg] at y1
          have y2 := y1
          rw [Bool.and_eq_true] at y2
          refine zs_heavyBehind (op := zx_fit lx pg) (fo := zx_fo lx pg) (g := g) hl hp hm (by omega) c2 (zx_fit_le hl hp (by omega) y2.1) (fun v => hg _ v (by omega)) (by omega) hF (stp _ ?_)
          rw [hQ, y1]; rfl
  · rw [show (584 : Int32) + nI (s + 1) = nI (584 + (s + 1)) from nI_add 584 _, zn_cl (n := 584 + (s + 1)) (by omega), hW (s + 1) (by omega), lN_add]
    refine ⟨vp_in_nI (by omega) (by decide), ?_⟩
    rintro _ rfl _ rfl
    have := hUs s (by omega)
    exact ⟨⟨s + 1, q + W (s + 1), by omega, by omega, nI_1 _, rfl, by omega⟩, zz_down (i := s + 1) (n := 73) (by omega) (by omega)⟩
end
