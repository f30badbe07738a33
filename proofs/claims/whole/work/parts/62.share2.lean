theorem zd_cross {v : Nat → Nat} {D D' : Nat → Bool} {n fN fm : Nat} {bN bm : Nat → Nat} (hsub : ∀ j, D' j = true → D j = true) (hv : ∀ j, D j = true → D' j = false → ∀ s, v (s ||| 2 ^ j) = v s) (hb : ∀ c, c ≤ zd_n n D' → zd_it (zd_n n (fun w => D w && !D' w)) bN c * fm = fN * bm c) : zt_sum (2 ^ n) (fun t => if zd_sub n D t then bN (zd_on n t) * v t else 0) * fm = fN * zt_sum (2 ^ n) (fun t => if zd_sub n D' t then bm (zd_on n t) * v t else 0) := by
  have e : ∀ (D : Nat → Bool) (b : Nat → Nat), zt_sum (2 ^ n) (fun t => if zd_sub n D t then b (zd_on n t) * v t else 0) = zd_E v n D b 0 0 := by
    intro D b
    rw [← zd_sum_E]
    refine zt_sum_congr (fun t _ => ?_)
    rw [Nat.zero_add, Nat.zero_or]
  rw [e, e, zd_main hsub hv, Nat.mul_comm, ← zd_E_mul, ← zd_E_mul]
  refine zd_E_congr (fun c _ hc => ?_)
  rw [Nat.mul_comm]; exact hb c (by omega)
def zk_D (lx : Nat → Nat → Nat) (pg : Nat → Nat) (i t : Nat) : Nat := zk_V lx pg (t ||| 2 ^ i) - zk_V lx pg t
def zk_up (lx : Nat → Nat → Nat) (pg : Nat → Nat) (i : Nat) : Nat := zt_sum (2 ^ lx 0 0) (fun t => if zd_sub (lx 0 0) (fun w => !decide (w = i)) t then zd_bf (lx 0 0) (zd_on (lx 0 0) t) * zk_D lx pg i t else 0)
def zk_upC (lx : Nat → Nat → Nat) (pg : Nat → Nat) (um i : Nat) : Nat := zt_sum (2 ^ lx 0 0) (fun t => if zd_sub (lx 0 0) (fun w => um.testBit w && !decide (w = i)) t then zd_bf (zd_on (lx 0 0) um) (zd_on (lx 0 0) t) * zk_D lx pg i t else 0)
theorem zk_D_bd {lx : Nat → Nat → Nat} {pg : Nat → Nat} (hl : zx_lexOK lx) (hp : zx_pgOK lx pg) {i t : Nat} : zk_D lx pg i t < 2 ^ 30 := by
  have := zk_A_bd hl hp (op := fun u w => zx_fit lx pg u w && (t ||| 2 ^ i).testBit w) (fo := zx_fo lx pg)
  unfold zk_D
  exact Nat.lt_of_le_of_lt (Nat.sub_le _ _) this
theorem zk_um_n {nw um i : Nat} (hi : i < nw) (hu : um.testBit i = true) : zd_n nw (fun w => um.testBit w && !decide (w = i)) + 1 = zd_on nw um ∧ zd_n nw (fun w => !decide (w = i) && !(um.testBit w && !decide (w = i))) + zd_on nw um = nw := by
  refine ⟨?_, ?_⟩
  · unfold zd_n zd_on
    refine (zt_sum_bump hi (fun w _ hne => ?_) ?_).symm
    · simp [hne]
    · simp [hu]
  · unfold zd_n zd_on
    rw [← zt_sum_add]
    have : ∀ n, zt_sum n (fun _ => 1) = n := by
      intro n
      induction n with
      | zero => rfl
      | succ n ih => simp only [zt_sum]; rw [ih]
    refine (zt_sum_congr (g := fun _ => 1) (fun w _ => ?_)).trans (this nw)
    by_cases e : w = i
    · subst e; simp [hu]
    · cases q : um.testBit w <;> simp [e, q]
theorem zk_up_eq {lx : Nat → Nat → Nat} {pg : Nat → Nat} {om' : Nat → Nat} {um i : Nat} (hi : i < lx 0 0) (hop : zk_op (pg 0) (lx 0 0) (zx_sp lx) (zx_fo lx pg) (zx_fit lx pg) om') (hum : ∀ u w, (om' u).testBit w = true → um.testBit w = true) (hu : um.testBit i = true) : zk_upC lx pg um i * zd_f (lx 0 0) = zk_up lx pg i * zd_f (zd_on (lx 0 0) um) := by
  obtain ⟨n1, n2⟩ := zk_um_n hi hu
  have := zd_cross (v := zk_D lx pg i) (D := fun w => !decide (w = i)) (D' := fun w => um.testBit w && !decide (w = i)) (n := lx 0 0) (fN := zd_f (lx 0 0)) (fm := zd_f (zd_on (lx 0 0) um)) (bN := zd_bf (lx 0 0)) (bm := zd_bf (zd_on (lx 0 0) um)) (fun j q => by rw [Bool.and_eq_true] at q; exact q.2) (fun j q1 q2 s => ?_) (fun c hc => ?_)
  · unfold zk_up zk_upC
    rw [this, Nat.mul_comm]
  · rw [q1, Bool.and_true] at q2
    have hj : ∀ u, (om' u).testBit j = false := fun u => by
      cases r : (om' u).testBit j
      · rfl
      · rw [hum u j r] at q2; cases q2
    unfold zk_D
    rw [zk_V_dummy hop hj, show s ||| 2 ^ j ||| 2 ^ i = s ||| 2 ^ i ||| 2 ^ j by rw [Nat.or_assoc, Nat.or_comm (2 ^ j), ← Nat.or_assoc], zk_V_dummy hop hj]
  · have h1 := zd_bf_it (k := zd_n (lx 0 0) (fun w => !decide (w = i) && !(um.testBit w && !decide (w = i)))) (N := lx 0 0) (c := c) (by omega)
    rw [show lx 0 0 - zd_n (lx 0 0) (fun w => !decide (w = i) && !(um.testBit w && !decide (w = i))) = zd_on (lx 0 0) um by omega] at h1
    exact h1
theorem zk_up_0 {lx : Nat → Nat → Nat} {pg : Nat → Nat} {om' : Nat → Nat} {um i : Nat} (hop : zk_op (pg 0) (lx 0 0) (zx_sp lx) (zx_fo lx pg) (zx_fit lx pg) om') (hum : ∀ u w, (om' u).testBit w = true → um.testBit w = true) (hu : um.testBit i = false) : zk_up lx pg i = 0 := by
  unfold zk_up
  refine zt_sum_zero (fun t _ => ?_)
  have hj : ∀ u, (om' u).testBit i = false := fun u => by
    cases r : (om' u).testBit i
    · rfl
    · rw [hum u i r] at hu; cases hu
  have : zk_D lx pg i t = 0 := by unfold zk_D; rw [zk_V_dummy hop hj, Nat.sub_self]
  rw [this]; simp
theorem zk_up_bd {lx : Nat → Nat → Nat} {pg : Nat → Nat} (hl : zx_lexOK lx) (hp : zx_pgOK lx pg) {i : Nat} (hi : i < lx 0 0) : zk_up lx pg i < 2 ^ 60 := by
  have h8 := hl.1
  have hN : 2 ^ lx 0 0 ≤ 256 := Nat.pow_le_pow_right (n := 2) (by decide) h8
  unfold zk_up
  refine Nat.lt_of_le_of_lt (Nat.le_trans (zt_sum_le (c := 5040 * 2 ^ 30) (fun t ht => ?_)) (Nat.mul_le_mul_right _ hN)) (by decide)
  cases q : zd_sub (lx 0 0) (fun w => !decide (w = i)) t
  · exact Nat.zero_le _
  · have h1 := zd_on_le q
    have h2 : zd_n (lx 0 0) (fun w => !decide (w = i)) < lx 0 0 := by
      have h3 : zd_n (lx 0 0) (fun w => !decide (w = i)) + 1 = zt_sum (lx 0 0) (fun _ => 1) := by
        unfold zd_n
        refine (zt_sum_bump hi (fun w _ hne => ?_) ?_).symm
        · simp [hne]
        · simp
      have h4 : zt_sum (lx 0 0) (fun _ => 1) ≤ lx 0 0 * 1 := zt_sum_le (fun _ _ => Nat.le_refl _)
      omega
    exact Nat.mul_le_mul (zd_bf_bd _ h8 _ (by omega)) (Nat.le_of_lt (zk_D_bd hl hp))
theorem zk_upC_bd {lx : Nat → Nat → Nat} {pg : Nat → Nat} (hl : zx_lexOK lx) (hp : zx_pgOK lx pg) {um i : Nat} (hi : i < lx 0 0) (hu : um.testBit i = true) : zk_upC lx pg um i < 2 ^ 60 := by
  have h8 := hl.1
  have hN : 2 ^ lx 0 0 ≤ 256 := Nat.pow_le_pow_right (n := 2) (by decide) h8
  have hon := zd_on_n (n := lx 0 0) (t := um)
  obtain ⟨n1, n2⟩ := zk_um_n hi hu
  unfold zk_upC
  refine Nat.lt_of_le_of_lt (Nat.le_trans (zt_sum_le (c := 5040 * 2 ^ 30) (fun t ht => ?_)) (Nat.mul_le_mul_right _ hN)) (by decide)
  cases q : zd_sub (lx 0 0) (fun w => um.testBit w && !decide (w = i)) t
  · exact Nat.zero_le _
  · have h1 := zd_on_le q
    exact Nat.mul_le_mul (zd_bf_bd _ (by omega) _ (by omega)) (Nat.le_of_lt (zk_D_bd hl hp))
def zk_fr (a b : Nat) (x : Int32) : Int64 := if x = 0 then lN (b / Nat.gcd a b) else lN (a / Nat.gcd a b)
theorem zs_shareM {i : Nat} {x2 : Int32} {I : zz_I} {L : zz_L} {lx : Nat → Nat → Nat} {pg : Nat → Nat} {P : Int64 → zz_I → zz_L → Prop} (hl : zx_lexOK lx) (hp : zx_pgOK lx pg) (e5 : I 0 5 = nI (lx 0 0)) (hw : ∀ s, s < 2 ^ lx 0 0 → L 26 s = lN (zk_V lx pg s)) (hi : i < lx 0 0) (h : P (zk_fr (zk_up lx pg i) (zd_f (lx 0 0)) x2) I L) : zp_X8_share_26 P (nI i) x2 0 0 I L := by
  have h8 := hl.1
  have hN : 2 ^ lx 0 0 ≤ 256 := Nat.pow_le_pow_right (n := 2) (by decide) h8
  refine ⟨fun y3 y5 => ∃ t, t ≤ 2 ^ lx 0 0 ∧ y5 = nI t ∧ y3 = lN (zt_sum t (fun t => if zd_sub (lx 0 0) (fun w => !decide (w = i)) t then zd_bf (lx 0 0) (zd_on (lx 0 0) t) * zk_D lx pg i t else 0)), fun _ y5 => 256 - y5.toNatClampNeg, ⟨0, Nat.zero_le _, rfl, rfl⟩, ?_⟩
  rintro y3 y5 ⟨t, ht, rfl, rfl⟩
  unfold zp_X8_share_26b
  rw [e5, zx_two_pow8 h8]
  refine pk_le (2 ^ lx 0 0) t (fun c => ?_) (fun c => ?_)
  · have : t = 2 ^ lx 0 0 := by omega
    subst this
    have hfb := zd_f_bd _ h8
    refine zs_facM h8 (zs_fraction (a := zk_up lx pg i) (zk_up_bd hl hp hi) (zd_f_pos _) (by omega) (fun z => ?_) (fun z => ?_))
    · unfold zk_fr at h; rw [if_pos z] at h; exact h
    · unfold zk_fr at h; rw [if_neg z] at h; exact h
  · refine zs_ones (by omega) ?_
    rw [zd_on_tail h8 c]
    have hon := zd_on_n (n := lx 0 0) (t := t)
    have hlow : t.testBit i = false → zd_sub (lx 0 0) (fun w => !decide (w = i)) t = true := by
      intro q
      refine zd_sub_iff.mpr (fun k _ hb => ?_)
      by_cases e : k = i
      · subst e; rw [q] at hb; cases hb
      · simp [e]
    have hhigh : t.testBit i = true → zd_sub (lx 0 0) (fun w => !decide (w = i)) t = false := by
      intro q
      cases r : zd_sub (lx 0 0) (fun w => !decide (w = i)) t
      · rfl
      · have := zd_sub_iff.mp r i hi q
        simp at this
    unfold zp_X8_has
    rw [zx_bit (by omega) (by omega), zy_div]
    cases q : t.testBit i
    · refine ⟨fun _ => ⟨fun _ => ?_, fun z => absurd rfl z⟩, fun z => absurd z (by decide)⟩
      have hs := hlow q
      have hcl := zd_on_le hs
      have h2 : zd_n (lx 0 0) (fun w => !decide (w = i)) < lx 0 0 := by
        have h3 : zd_n (lx 0 0) (fun w => !decide (w = i)) + 1 = zt_sum (lx 0 0) (fun _ => 1) := by
          unfold zd_n
          refine (zt_sum_bump hi (fun w _ hne => ?_) ?_).symm
          · simp [hne]
          · simp
        have h4 : zt_sum (lx 0 0) (fun _ => 1) ≤ lx 0 0 * 1 := zt_sum_le (fun _ _ => Nat.le_refl _)
        omega
      refine zs_facM (by omega) ?_
      rw [show (nI (lx 0 0) - (1 : Int32)) - nI (zd_on (lx 0 0) t) = nI (lx 0 0 - 1 - zd_on (lx 0 0) t) by rw [show nI (lx 0 0) - (1 : Int32) = nI (lx 0 0 - 1) from pk_sub (b := 1) (by omega), pk_sub (by omega)]]
      refine zs_facM (by omega) ?_
      have hp2 : 2 ^ i < 2 ^ lx 0 0 := Nat.pow_lt_pow_right (by decide) hi
      have hor : t ||| 2 ^ i < 2 ^ lx 0 0 := Nat.or_lt_two_pow c hp2
      rw [zx_two_pow (by omega), zy_or (by omega) (by omega), zn_cl (n := t ||| 2 ^ i) (by omega), zn_cl (n := t) (by omega), hw _ hor, hw _ c, lN_mul, lN_sub zk_V_mono, lN_mul, lN_add]
      refine ⟨vp_in_nI (by omega) (by decide), vp_in_nI (by omega) (by decide), ?_⟩
      rintro _ rfl _ rfl
      refine ⟨⟨t + 1, by omega, nI_1 t, ?_⟩, zz_down (n := 256) (by omega) (by omega)⟩
      simp only [zt_sum]; rw [hs]; rfl
    · refine ⟨fun z => absurd rfl z, fun _ => ⟨fun z => absurd z (by decide), fun _ => ?_⟩⟩
      rintro _ rfl _ rfl
      refine ⟨⟨t + 1, by omega, nI_1 t, ?_⟩, zz_down (n := 256) (by omega) (by omega)⟩
      simp only [zt_sum]; rw [hhigh q, show (0 : Int64) = lN 0 from rfl, lN_add]; rfl
theorem zs_shareC {i : Nat} {x2 : Int32} {I J : zz_I} {L M : zz_L} {lx : Nat → Nat → Nat} {pg : Nat → Nat} {om' : Nat → Nat} {um : Nat} {P : Int64 → zz_I → zz_L → Prop} (hl : zx_lexOK lx) (hp : zx_pgOK lx pg) (hst : zk_st I J L M (pg 0) (lx 0 0) (zx_sp lx) (zx_fo lx pg) (zx_fit lx pg) om' um) (hi : i < lx 0 0) (hu : um.testBit i = true) (hul : um < 2 ^ lx 0 0) (h : ∀ M2 : zz_L, (∀ k j, k ≠ 43 → M2 k j = L k j) → P (zk_fr (zk_upC lx pg um i) (zd_f (zd_on (lx 0 0) um)) x2) J M2) : zp_X7_share_71 P x2 (nI (2 ^ i)) (nI um) (nI (zd_on (lx 0 0) um)) 0 0 J M := by
  have h8 := hl.1
  have hN : 2 ^ lx 0 0 ≤ 256 := Nat.pow_le_pow_right (n := 2) (by decide) h8
  have hp2 : 2 ^ i < 2 ^ lx 0 0 := Nat.pow_lt_pow_right (by decide) hi
  have hon := zd_on_n (n := lx 0 0) (t := um)
  obtain ⟨n1, n2⟩ := zk_um_n hi hu
  obtain ⟨F, eF⟩ : ∃ F : Nat → Nat, F = fun t => if zd_sub (lx 0 0) (fun w => um.testBit w && !decide (w = i)) t then zd_bf (zd_on (lx 0 0) um) (zd_on (lx 0 0) t) * zk_D lx pg i t else 0 := ⟨_, rfl⟩
  have hF : ∀ t, F t = if zd_sub (lx 0 0) (fun w => um.testBit w && !decide (w = i)) t then zd_bf (zd_on (lx 0 0) um) (zd_on (lx 0 0) t) * zk_D lx pg i t else 0 := fun t => by rw [eF]
  have hupC : zt_sum (um + 1) F = zk_upC lx pg um i := by
    unfold zk_upC
    rw [← eF]
    refine (zt_sum_tail (by omega) (fun t h1 h2 => ?_)).symm
    rw [hF]
    cases q : zd_sub (lx 0 0) (fun w => um.testBit w && !decide (w = i)) t
    · rfl
    · have := zd_mask_le h2 (fun k hk hb => by
        have := zd_sub_iff.mp q k hk hb
        rw [Bool.and_eq_true] at this; exact this.1)
      omega
  refine ⟨fun y6 y8 J2 M2 => ∃ t, t ≤ um + 1 ∧ y8 = nI t ∧ y6 = lN (zt_sum t F) ∧ J = J2 ∧ ∀ k j, k ≠ 43 → M2 k j = L k j, fun _ y8 _ _ => 257 - y8.toNatClampNeg, ⟨0, by omega, rfl, rfl, rfl, hst.2.1⟩, ?_⟩
  rintro y6 y8 J2 M2 ⟨t, ht, rfl, rfl, rfl, hf⟩
  unfold zp_X7_share_71b
  refine pk_lt um t (fun c => ?_) (fun c => ?_)
  · have : t = um + 1 := by omega
    subst this
    rw [hupC]
    have hfb := zd_f_bd _ (Nat.le_trans hon h8)
    have h' := h M2 hf
    refine zs_facC (by omega) (zs_lowest (a := zk_upC lx pg um i) (zk_upC_bd hl hp hi hu) (zd_f_pos _) (by omega) (fun z => ?_) (fun z => ?_))
    · unfold zk_fr at h'; rw [if_pos z] at h'; exact h'
    · unfold zk_fr at h'; rw [if_neg z] at h'; exact h'
  · have skip : zd_sub (lx 0 0) (fun w => um.testBit w && !decide (w = i)) t = false → ∀ v149 : Int32, v149 = nI t + 1 → (∃ t2, t2 ≤ um + 1 ∧ v149 = nI t2 ∧ lN (zt_sum t F) = lN (zt_sum t2 F) ∧ J = J ∧ ∀ k j, k ≠ 43 → M2 k j = L k j) ∧ 257 - v149.toNatClampNeg < 257 - (nI t).toNatClampNeg := by
      rintro q _ rfl
      refine ⟨⟨t + 1, by omega, nI_1 t, ?_, rfl, hf⟩, zz_down (n := 257) (by omega) (by omega)⟩
      simp only [zt_sum]; rw [hF, q]; rfl
    refine zy_incl (by omega) (by omega) (fun q => skip ?_) (fun q => ?_)
    · cases r : zd_sub (lx 0 0) (fun w => um.testBit w && !decide (w = i)) t
      · rfl
      · refine absurd (fun v hv => ?_) q
        by_cases hvn : v < lx 0 0
        · have := zd_sub_iff.mp r v hvn hv
          rw [Bool.and_eq_true] at this; exact this.1
        · rw [Nat.testBit_lt_two_pow (Nat.lt_of_lt_of_le (show t < 2 ^ lx 0 0 by omega) (Nat.pow_le_pow_right (by decide) (by omega)))] at hv; cases hv
    · have z := zy_and0 (a := t) (b := 2 ^ i) (A := (zp_J6_bitCount_0f7a4 (nI t) (fun r97 => zp_X7_factorial r97 (fun r104 => zp_X7_factorial ((nI (zd_on (lx 0 0) um) - (1 : Int32)) - r97) (fun r114 => ∀ v118 : Int64, v118 = r104 * r114 → (zp_X0_countFrom (nI t ||| nI (2 ^ i)) (fun r132 I132 L132 => zp_X0_countFrom (nI t) (fun r141 I141 L141 => ∀ v147 : Int64, v147 = lN (zt_sum t F) + (v118 * (r132 - r141)) → (∀ v149 : Int32, v149 = nI t + (1 : Int32) → ((∃ t2, t2 ≤ um + 1 ∧ v149 = nI t2 ∧ v147 = lN (zt_sum t2 F) ∧ J = I141 ∧ ∀ k j, k ≠ 43 → L141 k j = L k j) ∧ 257 - v149.toNatClampNeg < 257 - (nI t).toNatClampNeg))) I132 L132) J M2)) J M2) J M2) J M2)) (B := ∀ v149 : Int32, v149 = nI t + 1 → (∃ t2, t2 ≤ um + 1 ∧ v149 = nI t2 ∧ lN (zt_sum t F) = lN (zt_sum t2 F) ∧ J = J ∧ ∀ k j, k ≠ 43 → M2 k j = L k j) ∧ 257 - v149.toNatClampNeg < 257 - (nI t).toNatClampNeg) (by omega) (by omega) (fun r => ?_) (fun r => skip ?_)
      · exact ⟨z.2, z.1⟩
      · have ti : t.testBit i = false := by
          have := r i
          rw [zy_2, decide_eq_true rfl, Bool.and_true] at this; exact this
        have hs : zd_sub (lx 0 0) (fun w => um.testBit w && !decide (w = i)) t = true := by
          refine zd_sub_iff.mpr (fun k _ hb => ?_)
          rw [q k hb]
          by_cases e : k = i
          · subst e; rw [ti] at hb; cases hb
          · simp [e]
        have hcl := zd_on_le hs
        have ht2 : t < 2 ^ lx 0 0 := by omega
        refine zs_bitCount (by omega) ?_
        rw [zd_on_tail h8 ht2]
        refine zs_facC (by omega) ?_
        rw [show (nI (zd_on (lx 0 0) um) - (1 : Int32)) - nI (zd_on (lx 0 0) t) = nI (zd_on (lx 0 0) um - 1 - zd_on (lx 0 0) t) by rw [show nI (zd_on (lx 0 0) um) - (1 : Int32) = nI (zd_on (lx 0 0) um - 1) from pk_sub (b := 1) (by omega), pk_sub (by omega)]]
        refine zs_facC (by omega) ?_
        rw [lN_mul]
        rintro _ rfl
        have hor : t ||| 2 ^ i < 2 ^ lx 0 0 := Nat.or_lt_two_pow ht2 hp2
        rw [zy_or (by omega) (by omega)]
        refine zs_countV hst (by omega) hf (fun M3 f3 => zs_countV hst (by omega) f3 (fun M4 f4 => ?_))
        rw [lN_sub zk_V_mono, lN_mul, lN_add]
        rintro _ rfl _ rfl
        refine ⟨⟨t + 1, by omega, nI_1 t, ?_, rfl, f4⟩, zz_down (n := 257) (by omega) (by omega)⟩
        simp only [zt_sum]; rw [hF, hs]; rfl
      · obtain ⟨v, hv, r1, r2⟩ := r
        rw [zy_2, decide_eq_true_eq] at r2
        subst r2
        cases s : zd_sub (lx 0 0) (fun w => um.testBit w && !decide (w = i)) t
        · rfl
        · have := zd_sub_iff.mp s i hi r1
          simp at this
theorem zk_fr_eq {a b c d : Nat} {x : Int32} (hb : 0 < b) (hd : 0 < d) (h : a * d = c * b) : zk_fr a b x = zk_fr c d x := by
  obtain ⟨h1, h2⟩ := zd_low_terms hb hd h
  unfold zk_fr
  rw [h1, h2]
theorem zo_23_x (x2 : Int32) : ∀ (IC : zz_I) (LC : zz_L) (IM : zz_I) (LM : zz_L) (p0 : Int32), zx_R IC LC IM LM → zp_X7_share p0 x2 (fun r IC2 LC2 => zp_X8_share p0 x2 (fun r2 IM2 LM2 => r = r2 ∧ zx_R IC2 LC2 IM2 LM2) IM LM) IC LC := by
  intro IC LC IM LM p0 hR
  have hR0 := zx_R0 hR
  obtain ⟨lx, pg, ⟨hl, hp, lC, lM, pC, pM⟩, -, -, -, -, -, ⟨z1, z2, z3, z4, z5⟩⟩ := id hR
  have h24 := hp.1
  have h8 := hl.1
  refine zs_X2_hasWord (n := lx 0 0) (by omega) lC.1 (fun c => ⟨fun q => absurd rfl q, fun _ => ?_⟩) (fun i hi e => ⟨fun _ => ?_, fun q => absurd q (by decide)⟩)
  · rintro _ rfl
    exact zs_X8_noWord (n := lx 0 0) (by omega) lM.1 (fun _ => ⟨fun q => absurd q (by decide), fun _ => ⟨rfl, hR0⟩⟩) (fun j hj e => (zn_out (by omega) c hj e).elim)
  · subst e
    refine zs_countAll (by omega) hl hp lC pC (fun J M om' um hst => ?_)
    obtain ⟨s1, s2, s3, s4, s5, s6, s7, s8⟩ := id hst
    have hum : ∀ u w, (om' u).testBit w = true → um.testBit w = true := fun u w q => (s7 w).mpr ⟨u, by
      have h1 := s3.2.2.2.2.2.2 u w q
      have h2 := (s3.2.2.2.2.1 w h1.1).2.1
      omega, q⟩
    have hul : um < 2 ^ lx 0 0 := zd_um_lt h8 s6 (fun w q => by
      obtain ⟨u, -, hb⟩ := (s7 w).mp q
      exact (s3.2.2.2.2.2.2 u w hb).1)
    have hM : ∀ (r : Int64) (M2 : zz_L), r = zk_fr (zk_up lx pg i) (zd_f (lx 0 0)) x2 → (∀ k j, k ≠ 43 → M2 k j = LC k j) → zp_X8_share (nI i) x2 (fun r2 IM2 LM2 => r = r2 ∧ zx_R J M2 IM2 LM2) IM LM := by
      rintro r M2 er fM2 _ rfl
      refine zs_X8_noWord (n := lx 0 0) (by omega) lM.1 (fun c => (zn_out (by omega) c hi rfl).elim) (fun j hj e => ⟨fun _ => ?_, fun q => absurd rfl q⟩)
      refine zs_weighSets (lx := lx) (pg := pg) hl hp lM pM z4 (fun J3 M3 f3 fL3 b3 => ?_)
      refine zs_shareM hl hp ((f3 0 5 (by omega)).trans lM.1) b3 hi ⟨er, ?_⟩
      refine zx_R_q hR (fun k j hk => s1 k j (by omega)) (by rw [s1 45 0 (by omega)]; exact z3) (fun k j h1 h2 h3 => (f3 k j h1).trans (zu_k2 (by omega))) ?_
      rw [fM2 0 12 (by omega), fL3 0 28 (by omega) (by omega)]; exact z1
    rintro _ rfl _ rfl
    rw [s5, zx_two_pow (by omega)]
    have hp2 := zx_pow_lt (w := i) (by omega)
    have z := zy_and0 (a := um) (b := 2 ^ i) (A := zp_X7_lowestTerms (0 : Int64) (1 : Int64) x2 (fun r54 => zp_X8_share (nI i) x2 (fun r2 IM2 LM2 => r54 = r2 ∧ zx_R J M IM2 LM2) IM LM) J M) (B := zp_J6_bitCount_0f7a4 (nI um) (fun r60 => zp_X7_share_71 (fun r IC2 LC2 => zp_X8_share (nI i) x2 (fun r2 IM2 LM2 => r = r2 ∧ zx_R IC2 LC2 IM2 LM2) IM LM) x2 (nI (2 ^ i)) (nI um) r60 (0 : Int64) (0 : Int32) J M) J M) s6 hp2 (fun r => ?_) (fun r => ?_)
    · exact ⟨z.2, z.1⟩
    · have hu : um.testBit i = false := by
        have := r i
        rw [zy_2, decide_eq_true rfl, Bool.and_true] at this; exact this
      have h0 : zk_up lx pg i = 0 := zk_up_0 s4 hum hu
      have key : zk_fr 0 1 x2 = zk_fr (zk_up lx pg i) (zd_f (lx 0 0)) x2 := zk_fr_eq (by decide) (zd_f_pos _) (by rw [h0, Nat.zero_mul, Nat.zero_mul])
      refine zs_lowest (a := 0) (b := 1) (by decide) (by decide) (by decide) (fun y => hM _ M ?_ s2) (fun y => hM _ M ?_ s2)
      · rw [← key]; unfold zk_fr; rw [if_pos y]
      · rw [← key]; unfold zk_fr; rw [if_neg y]
    · obtain ⟨v, hv, r1, r2⟩ := r
      rw [zy_2, decide_eq_true_eq] at r2
      subst r2
      refine zs_bitCount s6 ?_
      rw [zd_on_tail h8 hul]
      refine zs_shareC hl hp hst hi r1 hul (fun M2 f2 => hM _ M2 ?_ f2)
      exact zk_fr_eq (zd_f_pos _) (zd_f_pos _) (zk_up_eq hi s4 hum r1)
theorem zo_23_ok : zo_23 zx_R := fun IC LC IM LM p0 hR => ⟨zo_23_x 0 IC LC IM LM p0 hR, zo_23_x 1 IC LC IM LM p0 hR⟩
