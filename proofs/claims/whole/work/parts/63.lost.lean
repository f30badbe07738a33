def zk_v1 (lx : Nat → Nat → Nat) (pg : Nat → Nat) (t : Nat) : Nat := if 0 < zk_V lx pg t then 1 else 0
def zk_lo (lx : Nat → Nat → Nat) (pg : Nat → Nat) (x : Nat) : Nat := zt_sum (2 ^ lx 0 0) (fun t => if zd_sub (lx 0 0) (fun _ => true) t then zd_bp x (lx 0 0) (zd_on (lx 0 0) t) * zk_v1 lx pg t else 0)
def zk_loC (lx : Nat → Nat → Nat) (pg : Nat → Nat) (um x : Nat) : Nat := zt_sum (2 ^ lx 0 0) (fun t => if zd_sub (lx 0 0) (fun w => um.testBit w) t then zd_bp x (zd_on (lx 0 0) um) (zd_on (lx 0 0) t) * zk_v1 lx pg t else 0)
theorem zd_bp_bd {x N c : Nat} (hx : x ≤ 10) (hN : N ≤ 8) (hc : c ≤ N) : zd_bp x N c ≤ 10 ^ 8 := by
  unfold zd_bp
  have h1 : (10 - x) ^ c ≤ 10 ^ c := Nat.pow_le_pow_left (by omega) _
  have h2 : x ^ (N - c) ≤ 10 ^ (N - c) := Nat.pow_le_pow_left hx _
  refine Nat.le_trans (Nat.mul_le_mul h1 h2) ?_
  rw [← Nat.pow_add]
  exact Nat.pow_le_pow_right (by decide) (by omega)
theorem zk_v1_le {lx : Nat → Nat → Nat} {pg : Nat → Nat} {t : Nat} : zk_v1 lx pg t ≤ 1 := by unfold zk_v1; split <;> omega
theorem zk_lo_eq {lx : Nat → Nat → Nat} {pg : Nat → Nat} {om' : Nat → Nat} {um x : Nat} (hx : x ≤ 10) (hop : zk_op (pg 0) (lx 0 0) (zx_sp lx) (zx_fo lx pg) (zx_fit lx pg) om') (hum : ∀ u w, (om' u).testBit w = true → um.testBit w = true) : zk_loC lx pg um x * 10 ^ (lx 0 0) = zk_lo lx pg x * 10 ^ (zd_on (lx 0 0) um) := by
  have n2 : zd_n (lx 0 0) (fun w => true && !um.testBit w) + zd_on (lx 0 0) um = lx 0 0 := by
    unfold zd_n zd_on
    rw [← zt_sum_add]
    have : ∀ n, zt_sum n (fun _ => 1) = n := by
      intro n
      induction n with
      | zero => rfl
      | succ n ih => simp only [zt_sum]; rw [ih]
    refine (zt_sum_congr (g := fun _ => 1) (fun w _ => ?_)).trans (this _)
    cases q : um.testBit w <;> simp [q]
  have := zd_cross (v := zk_v1 lx pg) (D := fun _ => true) (D' := fun w => um.testBit w) (n := lx 0 0) (fN := 10 ^ lx 0 0) (fm := 10 ^ (zd_on (lx 0 0) um)) (bN := zd_bp x (lx 0 0)) (bm := zd_bp x (zd_on (lx 0 0) um)) (fun j q => rfl) (fun j q1 q2 s => ?_) (fun c hc => ?_)
  · unfold zk_lo zk_loC
    rw [this, Nat.mul_comm]
  · have hj : ∀ u, (om' u).testBit j = false := fun u => by
      cases r : (om' u).testBit j
      · rfl
      · rw [hum u j r] at q2; cases q2
    unfold zk_v1
    rw [zk_V_dummy hop hj]
  · have hc' : c ≤ zd_on (lx 0 0) um := hc
    have h1 := zd_bp_it (x := x) (k := zd_n (lx 0 0) (fun w => true && !um.testBit w)) hx (N := lx 0 0) (c := c) (by omega)
    rw [show lx 0 0 - zd_n (lx 0 0) (fun w => true && !um.testBit w) = zd_on (lx 0 0) um by omega] at h1
    exact h1
theorem zk_lo_bd {lx : Nat → Nat → Nat} {pg : Nat → Nat} (hl : zx_lexOK lx) {x : Nat} (hx : x ≤ 10) : zk_lo lx pg x < 2 ^ 60 := by
  have h8 := hl.1
  have hN : 2 ^ lx 0 0 ≤ 256 := Nat.pow_le_pow_right (n := 2) (by decide) h8
  unfold zk_lo
  refine Nat.lt_of_le_of_lt (Nat.le_trans (zt_sum_le (c := 10 ^ 8 * 1) (fun t ht => ?_)) (Nat.mul_le_mul_right _ hN)) (by decide)
  split
  · exact Nat.mul_le_mul (zd_bp_bd hx h8 zd_on_n) zk_v1_le
  · exact Nat.zero_le _
theorem zk_loC_bd {lx : Nat → Nat → Nat} {pg : Nat → Nat} (hl : zx_lexOK lx) {um x : Nat} (hx : x ≤ 10) : zk_loC lx pg um x < 2 ^ 60 := by
  have h8 := hl.1
  have hN : 2 ^ lx 0 0 ≤ 256 := Nat.pow_le_pow_right (n := 2) (by decide) h8
  unfold zk_loC
  refine Nat.lt_of_le_of_lt (Nat.le_trans (zt_sum_le (c := 10 ^ 8 * 1) (fun t ht => ?_)) (Nat.mul_le_mul_right _ hN)) (by decide)
  have hon := zd_on_n (n := lx 0 0) (t := um)
  cases q : zd_sub (lx 0 0) (fun w => um.testBit w) t
  · exact Nat.zero_le _
  · have h1 : zd_on (lx 0 0) t ≤ zd_on (lx 0 0) um := zd_on_le q
    exact Nat.mul_le_mul (zd_bp_bd hx (by omega) h1) zk_v1_le
theorem zs_lostM {x : Nat} {x2 : Int32} {I : zz_I} {L : zz_L} {lx : Nat → Nat → Nat} {pg : Nat → Nat} {P : Int32 → zz_I → zz_L → Prop} (hl : zx_lexOK lx) (hp : zx_pgOK lx pg) (e5 : I 0 5 = nI (lx 0 0)) (hw : ∀ s, s < 2 ^ lx 0 0 → L 26 s = lN (zk_V lx pg s)) (hx : x ≤ 10) (h : P (zk_fr (zk_lo lx pg x) (10 ^ lx 0 0) x2).toInt32 I L) : zp_X8_lost_29 P (nI x) x2 0 0 I L := by
  have h8 := hl.1
  have hN : 2 ^ lx 0 0 ≤ 256 := Nat.pow_le_pow_right (n := 2) (by decide) h8
  have hten : 10 ^ lx 0 0 ≤ 10 ^ 8 := Nat.pow_le_pow_right (by decide) h8
  obtain ⟨F, eF⟩ : ∃ F : Nat → Nat, F = fun t => if zd_sub (lx 0 0) (fun _ => true) t then zd_bp x (lx 0 0) (zd_on (lx 0 0) t) * zk_v1 lx pg t else 0 := ⟨_, rfl⟩
  have hF : ∀ t, F t = zd_bp x (lx 0 0) (zd_on (lx 0 0) t) * zk_v1 lx pg t := fun t => by
    rw [eF]
    have : zd_sub (lx 0 0) (fun _ => true) t = true := zd_sub_iff.mpr (fun _ _ _ => rfl)
    show (if zd_sub (lx 0 0) (fun _ => true) t then _ else 0) = _
    rw [this, if_pos rfl]
  refine ⟨fun y3 y5 => ∃ t, t ≤ 2 ^ lx 0 0 ∧ y5 = nI t ∧ y3 = lN (zt_sum t F), fun _ y5 => 256 - y5.toNatClampNeg, ⟨0, Nat.zero_le _, rfl, rfl⟩, ?_⟩
  rintro y3 y5 ⟨t, ht, rfl, rfl⟩
  unfold zp_X8_lost_29b
  rw [e5, zx_two_pow8 h8]
  refine pk_le (2 ^ lx 0 0) t (fun c => ?_) (fun c => ?_)
  · have : t = 2 ^ lx 0 0 := by omega
    subst this
    have e1 : zt_sum (2 ^ lx 0 0) F = zk_lo lx pg x := by rw [eF]; rfl
    rw [e1]
    refine zs_powM (b := 10) h8 ?_
    rw [nI_l (by omega)]
    refine zs_fraction (zk_lo_bd hl hx) (Nat.pow_pos (by decide)) (by omega) (fun z => ?_) (fun z => ?_)
    · unfold zk_fr at h; rw [if_pos z] at h; exact h
    · unfold zk_fr at h; rw [if_neg z] at h; exact h
  · have hV : zk_V lx pg t < 2 ^ 30 := zk_A_bd hl hp
    have hon := zd_on_n (n := lx 0 0) (t := t)
    refine zs_ones (by omega) ⟨vp_in_nI (by omega) (by decide), ?_⟩
    rw [zd_on_tail h8 c, zn_cl (n := t) (by omega), hw t c]
    refine ⟨fun c2 => ?_, fun c2 => ?_⟩
    · have := (pk_lLE (b := 0) (by omega) (by decide)).mp c2
      rintro _ rfl _ rfl
      refine ⟨⟨t + 1, by omega, nI_1 t, ?_⟩, zz_down (n := 256) (by omega) (by omega)⟩
      have hv0 : zk_v1 lx pg t = 0 := by unfold zk_v1; rw [if_neg (by omega)]
      simp only [zt_sum]; rw [hF, hv0, Nat.mul_zero, show (0 : Int64) = lN 0 from rfl, lN_add]
    · have hpos : 0 < zk_V lx pg t := by
        refine Nat.pos_of_ne_zero (fun z => c2 ?_)
        rw [z]; decide
      rw [show (10 : Int32) - nI x = nI (10 - x) from pk_sub (a := 10) (by omega)]
      refine zs_powM (by omega) ?_
      rw [pk_sub hon]
      refine zs_powM (by omega) ?_
      have hb : (10 - x) ^ zd_on (lx 0 0) t * x ^ (lx 0 0 - zd_on (lx 0 0) t) ≤ 10 ^ 8 := zd_bp_bd (x := x) hx h8 hon
      rw [pk_mul, nI_l (by omega), lN_add]
      rintro _ rfl _ rfl
      refine ⟨⟨t + 1, by omega, nI_1 t, ?_⟩, zz_down (n := 256) (by omega) (by omega)⟩
      have hv1 : zk_v1 lx pg t = 1 := by unfold zk_v1; rw [if_pos hpos]
      simp only [zt_sum]; rw [hF, hv1, Nat.mul_one]; rfl
theorem zs_lostC {x : Nat} {x2 : Int32} {I J : zz_I} {L M : zz_L} {lx : Nat → Nat → Nat} {pg : Nat → Nat} {om' : Nat → Nat} {um : Nat} {P : Int32 → zz_I → zz_L → Prop} (hl : zx_lexOK lx) (hp : zx_pgOK lx pg) (hst : zk_st I J L M (pg 0) (lx 0 0) (zx_sp lx) (zx_fo lx pg) (zx_fit lx pg) om' um) (hx : x ≤ 10) (hul : um < 2 ^ lx 0 0) (h : ∀ M2 : zz_L, (∀ k j, k ≠ 43 → M2 k j = L k j) → P (zk_fr (zk_loC lx pg um x) (10 ^ (zd_on (lx 0 0) um)) x2).toInt32 J M2) : zp_X7_lost_49 P (nI x) x2 (nI um) (nI (zd_on (lx 0 0) um)) 0 0 J M := by
  have h8 := hl.1
  have hN : 2 ^ lx 0 0 ≤ 256 := Nat.pow_le_pow_right (n := 2) (by decide) h8
  have hon := zd_on_n (n := lx 0 0) (t := um)
  have hten : 10 ^ zd_on (lx 0 0) um ≤ 10 ^ 8 := Nat.pow_le_pow_right (by decide) (by omega)
  obtain ⟨F, eF⟩ : ∃ F : Nat → Nat, F = fun t => if zd_sub (lx 0 0) (fun w => um.testBit w) t then zd_bp x (zd_on (lx 0 0) um) (zd_on (lx 0 0) t) * zk_v1 lx pg t else 0 := ⟨_, rfl⟩
  have hF : ∀ t, F t = if zd_sub (lx 0 0) (fun w => um.testBit w) t then zd_bp x (zd_on (lx 0 0) um) (zd_on (lx 0 0) t) * zk_v1 lx pg t else 0 := fun t => by rw [eF]
  have hloC : zt_sum (um + 1) F = zk_loC lx pg um x := by
    unfold zk_loC
    rw [← eF]
    refine (zt_sum_tail (by omega) (fun t h1 h2 => ?_)).symm
    rw [hF]
    cases q : zd_sub (lx 0 0) (fun w => um.testBit w) t
    · rfl
    · have := zd_mask_le h2 (fun k hk hb => zd_sub_iff.mp q k hk hb)
      omega
  refine ⟨fun y5 y7 J2 M2 => ∃ t, t ≤ um + 1 ∧ y7 = nI t ∧ y5 = lN (zt_sum t F) ∧ J = J2 ∧ ∀ k j, k ≠ 43 → M2 k j = L k j, fun _ y7 _ _ => 257 - y7.toNatClampNeg, ⟨0, by omega, rfl, rfl, rfl, hst.2.1⟩, ?_⟩
  rintro y5 y7 J2 M2 ⟨t, ht, rfl, rfl, rfl, hf⟩
  unfold zp_X7_lost_49b
  refine pk_lt um t (fun c => ?_) (fun c => ?_)
  · have : t = um + 1 := by omega
    subst this
    rw [hloC]
    have h' := h M2 hf
    refine zs_powC (b := 10) (by decide) (by omega) (zs_lowest (zk_loC_bd hl hx) (Nat.pow_pos (by decide)) (by omega) (fun z => ?_) (fun z => ?_))
    · unfold zk_fr at h'; rw [if_pos z] at h'; exact h'
    · unfold zk_fr at h'; rw [if_neg z] at h'; exact h'
  · refine zy_incl (by omega) (by omega) (fun q => ?_) (fun q => ?_)
    · rintro _ rfl
      refine ⟨⟨t + 1, by omega, nI_1 t, ?_, rfl, hf⟩, zz_down (n := 257) (by omega) (by omega)⟩
      have hs : zd_sub (lx 0 0) (fun w => um.testBit w) t = false := by
        cases r : zd_sub (lx 0 0) (fun w => um.testBit w) t
        · rfl
        · refine absurd (fun v hv => ?_) q
          by_cases hvn : v < lx 0 0
          · exact zd_sub_iff.mp r v hvn hv
          · rw [Nat.testBit_lt_two_pow (Nat.lt_of_lt_of_le (show t < 2 ^ lx 0 0 by omega) (Nat.pow_le_pow_right (by decide) (by omega)))] at hv; cases hv
      simp only [zt_sum]; rw [hF, hs]; rfl
    · have hs : zd_sub (lx 0 0) (fun w => um.testBit w) t = true := zd_sub_iff.mpr (fun k _ hb => q k hb)
      have hcl : zd_on (lx 0 0) t ≤ zd_on (lx 0 0) um := zd_on_le hs
      have ht2 : t < 2 ^ lx 0 0 := by omega
      have hV : zk_V lx pg t < 2 ^ 30 := zk_A_bd hl hp
      refine zs_countV hst (by omega) hf (fun M3 f3 => ⟨fun c2 => ?_, fun c2 => ?_⟩)
      · have := (pk_lLE (b := 0) (by omega) (by decide)).mp c2
        rintro _ rfl
        refine ⟨⟨t + 1, by omega, nI_1 t, ?_, rfl, f3⟩, zz_down (n := 257) (by omega) (by omega)⟩
        have hv0 : zk_v1 lx pg t = 0 := by unfold zk_v1; rw [if_neg (by omega)]
        simp only [zt_sum]; rw [hF, hs, hv0, Nat.mul_zero]; rfl
      · have hpos : 0 < zk_V lx pg t := by
          refine Nat.pos_of_ne_zero (fun z => c2 ?_)
          rw [z]; decide
        refine zs_bitCount (by omega) ?_
        rw [zd_on_tail h8 ht2, show (10 : Int32) - nI x = nI (10 - x) from pk_sub (a := 10) (by omega)]
        refine zs_powC (by omega) (by omega) ?_
        rw [pk_sub hcl]
        refine zs_powC (by omega) (by omega) ?_
        rw [lN_mul, lN_add]
        rintro _ rfl _ rfl
        refine ⟨⟨t + 1, by omega, nI_1 t, ?_, rfl, f3⟩, zz_down (n := 257) (by omega) (by omega)⟩
        have hv1 : zk_v1 lx pg t = 1 := by unfold zk_v1; rw [if_pos hpos]
        simp only [zt_sum]; rw [hF, hs, hv1, Nat.mul_one]; rfl
theorem zo_24_x (x2 : Int32) : ∀ (IC : zz_I) (LC : zz_L) (IM : zz_I) (LM : zz_L) (p0 : Int32), zx_R IC LC IM LM → zp_X7_lost p0 x2 (fun r IC2 LC2 => zp_X8_lost p0 x2 (fun r2 IM2 LM2 => r = r2 ∧ zx_R IC2 LC2 IM2 LM2) IM LM) IC LC := by
  intro IC LC IM LM p0 hR
  have hR0 := zx_R0 hR
  obtain ⟨lx, pg, ⟨hl, hp, lC, lM, pC, pM⟩, -, -, -, -, -, ⟨z1, z2, z3, z4, z5⟩⟩ := id hR
  have h24 := hp.1
  have h8 := hl.1
  unfold zp_X7_lost
  rcases zn_ix p0 (n := 11) (by decide) with hb | ⟨x, hx, e⟩
  · have bad : zp_X8_lost p0 x2 (fun r2 IM2 LM2 => (-2 : Int32) = r2 ∧ zx_R IC LC IM2 LM2) IM LM := by
      rintro _ rfl
      exact zs_inR (b := 10) (by decide) rfl (fun _ => ⟨fun q => absurd rfl q, fun _ => ⟨rfl, hR0⟩⟩) (fun j hj e => (zn_out (n := 11) (by decide) hb (by omega) e).elim)
    refine ⟨fun _ => bad, fun c1 => ⟨fun c2 => ?_, fun _ => bad⟩⟩
    rcases hb with hb | hb
    · exact absurd hb c1
    · exact absurd (Int32.le_trans hb c2) (by decide)
  · subst e
    refine ⟨fun c => absurd c (nI_pos (by omega)), fun _ => pk_le x 10 (fun _ => ?_) (fun c => by omega)⟩
    refine zs_countAll (by omega) hl hp lC pC (fun J M om' um hst => ?_)
    obtain ⟨s1, s2, s3, s4, s5, s6, s7, s8⟩ := id hst
    have hum : ∀ u w, (om' u).testBit w = true → um.testBit w = true := fun u w q => (s7 w).mpr ⟨u, by
      have h1 := s3.2.2.2.2.2.2 u w q
      have h2 := (s3.2.2.2.2.1 w h1.1).2.1
      omega, q⟩
    have hul : um < 2 ^ lx 0 0 := zd_um_lt h8 s6 (fun w q => by
      obtain ⟨u, -, hb⟩ := (s7 w).mp q
      exact (s3.2.2.2.2.2.2 u w hb).1)
    rintro _ rfl
    rw [s5]
    refine zs_bitCount s6 ?_
    rw [zd_on_tail h8 hul]
    refine zs_lostC hl hp hst (by omega) hul (fun M2 f2 => ?_)
    rintro _ rfl
    refine zs_inR (b := 10) (by decide) rfl (fun c => (zn_out (n := 11) (by decide) c hx rfl).elim) (fun j hj e => ⟨fun _ => ?_, fun q => absurd q (by decide)⟩)
    refine zs_weighSets (lx := lx) (pg := pg) hl hp lM pM z4 (fun J3 M3 f3 fL3 b3 => ?_)
    refine zs_lostM hl hp ((f3 0 5 (by omega)).trans lM.1) b3 (by omega) ⟨?_, ?_⟩
    · rw [zk_fr_eq (Nat.pow_pos (by decide)) (Nat.pow_pos (by decide)) (zk_lo_eq (show x ≤ 10 by omega) s4 hum)]
    · refine zx_R_q hR (fun k j hk => s1 k j (by omega)) (by rw [s1 45 0 (by omega)]; exact z3) (fun k j h1 h2 h3 => (f3 k j h1).trans (zu_k2 (by omega))) ?_
      rw [f2 0 12 (by omega), fL3 0 28 (by omega) (by omega)]; exact z1
theorem zo_24_ok : zo_24 zx_R := fun IC LC IM LM p0 hR => ⟨zo_24_x 0 IC LC IM LM p0 hR, zo_24_x 1 IC LC IM LM p0 hR⟩
