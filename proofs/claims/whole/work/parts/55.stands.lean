theorem zx_fit_lt {lx : Nat → Nat → Nat} {pg : Nat → Nat} (hl : zx_lexOK lx) (hp : zx_pgOK lx pg) : ∀ u w, w < lx 0 0 → zx_fit lx pg u w = true → u < pg 0 := fun u w hw h => by
  have h1 := zx_fit_le hl hp hw h
  have h2 := (zx_sp_bd hl hw).1
  omega
/-- the class behind countAll and countHeads -/
def zk_hd (I J : zz_I) (L M : zz_L) (lx : Nat → Nat → Nat) (pg : Nat → Nat) (om' : Nat → Nat) : Prop :=
  (∀ k j, (k < 37 ∨ 41 < k) → J k j = I k j) ∧ (∀ k j, k ≠ 42 → k ≠ 43 → M k j = L k j) ∧ zk_ch J (pg 0) (lx 0 0) (zx_sp lx) (zx_fo lx pg) om' ∧ zk_op (pg 0) (lx 0 0) (zx_sp lx) (zx_fo lx pg) (zx_fit lx pg) om' ∧ (∀ u w, (om' u).testBit w = true → M 42 (u * 8 + w) = lN (zk_H (lx 0 0) (zx_sp lx) (fun u w => (om' u).testBit w) (zx_fo lx pg) u w)) ∧ ∀ u w, (om' u).testBit w = true → M 43 (u * 8 + w) = lN (zk_N (pg 0) (lx 0 0) (zx_sp lx) (zx_fit lx pg) (zx_fo lx pg) u w)
theorem zs_headsC {I J : zz_I} {L M : zz_L} {lx : Nat → Nat → Nat} {pg : Nat → Nat} {om' : Nat → Nat} {um : Nat} {P : zz_I → zz_L → Prop} (hst : zk_st I J L M (pg 0) (lx 0 0) (zx_sp lx) (zx_fo lx pg) (zx_fit lx pg) om' um) (h : ∀ M2 : zz_L, zk_hd I J L M2 lx pg om' → P J M2) : zp_X0_countHeads P J M := by
  obtain ⟨a, b, c, d, e, f, g, i⟩ := hst
  exact zs_countHeads c (fun M2 f2 h2 => h M2 ⟨a, fun k j k1 k2 => (f2 k j k1).trans (b k j k2), c, d, h2, fun u w q => (f2 43 _ (by omega)).trans (i u w q)⟩)
theorem zs_cSign {I J : zz_I} {L M : zz_L} {lx : Nat → Nat → Nat} {pg : Nat → Nat} {om' : Nat → Nat} {P : Int64 → Prop} (hl : zx_lexOK lx) (hp : zx_pgOK lx pg) (lC : zx_lexC 14 I lx) (hd : zk_hd I J L M lx pg om') {t x : Nat} (ht : t < pg 0) (hx : x < 7) (h : P (lN (zk_S lx pg t x))) : zp_X0_countSign (nI t) (nI x) P J M := by
  obtain ⟨a, b, c, d, e, f⟩ := hd
  refine zs_countSign hl (zx_lexC_fr (fun k j hk => a k j (by omega)) lC) c e f ht hx ?_
  have : zt_sum (t + 1) (fun u => zt_sum (lx 0 0) (fun w => if (om' u).testBit w && zx_at lx w (t - u) x then zk_H (lx 0 0) (zx_sp lx) (fun u w => (om' u).testBit w) (zx_fo lx pg) u w * zk_N (pg 0) (lx 0 0) (zx_sp lx) (zx_fit lx pg) (zx_fo lx pg) u w else 0)) = zk_S lx pg t x := by
    unfold zk_S
    refine zt_sum_congr (fun u _ => zt_sum_congr (fun w hw => ?_))
    have := zk_thru (zx_fit_lt hl hp) d (u := u) hw
    cases zx_at lx w (t - u) x
    · rw [Bool.and_false, Bool.and_false]; rfl
    · rw [Bool.and_true, Bool.and_true]; exact this
  rw [this]; exact h
theorem zk_S_le {lx : Nat → Nat → Nat} {pg : Nat → Nat} (hl : zx_lexOK lx) {t x y : Nat} (ht : t < pg 0) (hxy : x ≠ y) : zk_S lx pg t x + zk_S lx pg t y ≤ zk_A (pg 0) (lx 0 0) (zx_sp lx) (zx_fit lx pg) (zx_fo lx pg) := by
  rw [← zk_cut t ht]
  unfold zk_S
  rw [← zt_sum_add]
  refine zt_sum_mono (fun u hu => ?_)
  rw [← zt_sum_add]
  refine zt_sum_mono (fun w hw => ?_)
  cases zx_fit lx pg u w
  · simp
  · rw [Bool.true_and, Bool.true_and, Bool.true_and]
    cases q : zx_at lx w (t - u) x
    · cases r : zx_at lx w (t - u) y
      · simp
      · have := zx_at_le hl hw r
        rw [decide_eq_true (show t < u + zx_sp lx w + 1 by omega)]; simp
    · have := zx_at_le hl hw q
      rw [decide_eq_true (show t < u + zx_sp lx w + 1 by omega)]
      cases r : zx_at lx w (t - u) y
      · simp
      · exact absurd (zx_at_uniq hl hw q r) hxy
theorem zk_A_bd {lx : Nat → Nat → Nat} {pg : Nat → Nat} (hl : zx_lexOK lx) (hp : zx_pgOK lx pg) {op fo : Nat → Nat → Bool} : zk_A (pg 0) (lx 0 0) (zx_sp lx) op fo < 2 ^ 30 := by
  have h24 := hp.1
  unfold zk_A
  have hb : ∀ w, w < lx 0 0 → (if op 0 w then zk_N (pg 0) (lx 0 0) (zx_sp lx) op fo 0 w else 0) ≤ 8 ^ 8 := by
    intro w hw
    split
    · exact Nat.le_trans (zk_N_bd hl.1 (fun w hw => (zx_sp_bd hl hw).1) _ 0 w (Nat.le_refl _) hw) (Nat.pow_le_pow_right (by decide) (by omega))
    · exact Nat.zero_le _
  refine Nat.lt_of_le_of_lt (Nat.le_trans (zt_sum_le hb) (Nat.mul_le_mul_right _ hl.1)) (by decide)
theorem zk_S_bd {lx : Nat → Nat → Nat} {pg : Nat → Nat} (hl : zx_lexOK lx) {t x : Nat} (ht : t < pg 0) : zk_S lx pg t x ≤ zk_A (pg 0) (lx 0 0) (zx_sp lx) (zx_fit lx pg) (zx_fo lx pg) := by
  have := zk_S_le hl ht (x := x) (y := x + 1) (by omega)
  omega
/-- the sign that is sure, as the reference finds it -/
def zx_su (lx : Nat → Nat → Nat) (pg : Nat → Nat) (t : Nat) : Nat → Int32
  | 0 => -9
  | n + 1 => if 0 < zk_A (pg 0) (lx 0 0) (zx_sp lx) (zx_fit lx pg) (zx_fo lx pg) ∧ zk_S lx pg t n = zk_A (pg 0) (lx 0 0) (zx_sp lx) (zx_fit lx pg) (zx_fo lx pg) then nI n else zx_su lx pg t n
theorem zx_su_no {lx : Nat → Nat → Nat} {pg : Nat → Nat} {t n : Nat} (h : ∀ x, x < n → ¬ (0 < zk_A (pg 0) (lx 0 0) (zx_sp lx) (zx_fit lx pg) (zx_fo lx pg) ∧ zk_S lx pg t x = zk_A (pg 0) (lx 0 0) (zx_sp lx) (zx_fit lx pg) (zx_fo lx pg))) : zx_su lx pg t n = -9 := by
  induction n with
  | zero => rfl
  | succ n ih =>
    simp only [zx_su]
    rw [if_neg (h n (by omega))]
    exact ih (fun x hx => h x (by omega))
theorem zx_su_at {lx : Nat → Nat → Nat} {pg : Nat → Nat} {t n x : Nat} (hl : zx_lexOK lx) (ht : t < pg 0) (hx : x < n) (h : 0 < zk_A (pg 0) (lx 0 0) (zx_sp lx) (zx_fit lx pg) (zx_fo lx pg) ∧ zk_S lx pg t x = zk_A (pg 0) (lx 0 0) (zx_sp lx) (zx_fit lx pg) (zx_fo lx pg)) : zx_su lx pg t n = nI x := by
  induction n with
  | zero => omega
  | succ n ih =>
    simp only [zx_su]
    by_cases e : x = n
    · subst e; rw [if_pos h]
    · have := zk_S_le hl ht e
      rw [if_neg (by omega)]
      exact ih (by omega)
theorem zs_certain {t u : Nat} {I : zz_I} {L : zz_L} {lx : Nat → Nat → Nat} {pg : Nat → Nat} {P : Int32 → zz_I → zz_L → Prop} (ht : t < 34) (hl : zx_lexOK lx) (hp : zx_pgOK lx pg) (lC : zx_lexC 14 I lx) (pC : zx_pgC t I lx pg) (hu : u < pg 0) (h : ∀ (J : zz_I) (M : zz_L), (∀ k j, (k < 37 ∨ 41 < k) → J k j = I k j) → (∀ k j, k ≠ 42 → k ≠ 43 → M k j = L k j) → P (zx_su lx pg u 7) J M) : zp_X7_certainSign t (nI u) P I L := by
  have hA := zk_A_bd hl hp (op := zx_fit lx pg) (fo := zx_fo lx pg)
  refine zs_countAll ht hl hp lC pC (fun J M om' um hst => zs_headsC hst (fun M2 hd => ?_))
  have h' := h J M2 hd.1 hd.2.1
  obtain ⟨A, eA⟩ : ∃ A, A = zk_A (pg 0) (lx 0 0) (zx_sp lx) (zx_fit lx pg) (zx_fo lx pg) := ⟨_, rfl⟩
  rw [← eA] at hA ⊢
  refine ⟨fun y5 => ∃ i, i ≤ 7 ∧ y5 = nI i ∧ ∀ x, x < i → ¬ (0 < A ∧ zk_S lx pg u x = A), fun y5 => 7 - y5.toNatClampNeg, ⟨0, by omega, rfl, fun x hx => absurd hx (by omega)⟩, ?_⟩
  rintro y5 ⟨i, hi, rfl, hno⟩
  unfold zp_X7_certainSign_23b
  refine pk_le 7 i (fun c => ?_) (fun c => ?_)
  · have : i = 7 := by omega
    subst this
    rw [zx_su_no (n := 7) (by rw [← eA]; exact hno)] at h'
    exact h'
  · have stay : ¬ (0 < A ∧ zk_S lx pg u i = A) → ∀ v58 : Int32, v58 = nI i + 1 → (∃ i, i ≤ 7 ∧ v58 = nI i ∧ ∀ x, x < i → ¬ (0 < A ∧ zk_S lx pg u x = A)) ∧ 7 - v58.toNatClampNeg < 7 - (nI i).toNatClampNeg := by
      rintro q _ rfl
      refine ⟨⟨i + 1, by omega, nI_1 i, fun x hx => ?_⟩, zz_down (n := 7) (by omega) (by omega)⟩
      by_cases e : x = i
      · subst e; exact q
      · exact hno x (by omega)
    refine ⟨fun c2 => stay (fun z => ?_), fun c2 => ?_⟩
    · have := (pk_lLE (a := A) (b := 0) (by omega) (by omega)).mp c2
      omega
    · have hpos : 0 < A := by
        refine Nat.pos_of_ne_zero (fun z => c2 ?_)
        rw [z]; decide
      have hbd := zk_S_bd hl hu (x := i)
      rw [← eA] at hbd
      refine zs_cSign hl hp lC hd hu (by omega) ⟨fun z => stay (fun y => z (by rw [y.2])), fun z => ?_⟩
      have z2 : zk_S lx pg u i = A := (pk_lEQ (by omega) (by omega)).mp z
      rw [zx_su_at hl hu (show i < 7 by omega) (by rw [← eA]; exact ⟨hpos, z2⟩)] at h'
      exact h'
theorem zs_sureAt {k u : Nat} {I : zz_I} {L : zz_L} {lx : Nat → Nat → Nat} {pg : Nat → Nat} {P : Int32 → zz_I → zz_L → Prop} (hl : zx_lexOK lx) (hp : zx_pgOK lx pg) (lM : zx_lexM 5 2 I lx) (pM : zx_pgM k 0 I lx pg) (hk : ∀ j, j < 8 → ∃ c : Nat, c < 3 ∧ I 5 j = nI c) (hu : u < pg 0) (h : ∀ M : zz_L, (∀ k j, k ≠ 23 → k ≠ 24 → M k j = L k j) → P (zx_su lx pg u 7) I M) : zp_X8_sureAt k (nI u) P I L := by
  have hA := zk_A_bd hl hp (op := zx_fit lx pg) (fo := zx_fo lx pg)
  refine zs_all hl hp lM pM hk (fun M0 f0 => ?_)
  obtain ⟨A, eA⟩ : ∃ A, A = zk_A (pg 0) (lx 0 0) (zx_sp lx) (zx_fit lx pg) (zx_fo lx pg) := ⟨_, rfl⟩
  rw [← eA] at hA ⊢
  have e7 : ∀ n, zx_su lx pg u (n + 1) = if 0 < A ∧ zk_S lx pg u n = A then nI n else zx_su lx pg u n := fun n => by rw [eA]; rfl
  refine ⟨fun y5 y6 J M => ∃ i, i ≤ 7 ∧ y6 = nI i ∧ y5 = zx_su lx pg u i ∧ I = J ∧ ∀ k j, k ≠ 23 → k ≠ 24 → M k j = L k j, fun _ y6 _ _ => 7 - y6.toNatClampNeg, ⟨0, by omega, rfl, rfl, rfl, fun k j k1 _ => f0 k j k1⟩, ?_⟩
  rintro y5 y6 J M ⟨i, hi, rfl, rfl, rfl, hf⟩
  unfold zp_X8_sureAt_13b
  refine pk_lt 6 i (fun c => ?_) (fun c => ?_)
  · have : i = 7 := by omega
    subst this; exact h M hf
  · refine ⟨fun c2 => ?_, fun c2 => ?_⟩
    · rintro _ rfl
      refine ⟨⟨i + 1, by omega, nI_1 i, ?_, rfl, hf⟩, zz_down (n := 7) (by omega) (by omega)⟩
      have := (pk_lLE (a := A) (b := 0) (by omega) (by omega)).mp c2
      rw [e7, if_neg (by omega)]
    · have hpos : 0 < A := by
        refine Nat.pos_of_ne_zero (fun z => c2 ?_)
        rw [z]; decide
      have hbd := zk_S_bd hl hu (x := i)
      rw [← eA] at hbd
      refine zs_standing hl hp lM pM hk hu (by omega) (fun M2 f2 => ⟨fun z => ?_, fun z => ?_⟩)
      · rintro _ rfl
        refine ⟨⟨i + 1, by omega, nI_1 i, ?_, rfl, fun k j k1 k2 => (f2 k j k1 k2).trans (hf k j k1 k2)⟩, zz_down (n := 7) (by omega) (by omega)⟩
        rw [e7, if_neg (fun y => z (by rw [y.2]))]
      · rintro _ rfl
        refine ⟨⟨i + 1, by omega, nI_1 i, ?_, rfl, fun k j k1 k2 => (f2 k j k1 k2).trans (hf k j k1 k2)⟩, zz_down (n := 7) (by omega) (by omega)⟩
        have z2 : zk_S lx pg u i = A := (pk_lEQ (by omega) (by omega)).mp z
        rw [e7, if_pos ⟨hpos, z2⟩]
theorem zo_16_ok : zo_16 zx_R := by
  intro IC LC IM LM p0 p1 hR
  have hR0 := zx_R0 hR
  obtain ⟨lx, pg, ⟨hl, hp, lC, lM, pC, pM⟩, -, -, -, -, -, ⟨z1, z2, z3, z4, z5⟩⟩ := id hR
  have h24 := hp.1
  refine zs_X6_hasUnit (n := pg 0) (by omega) pC.1 (fun c => ⟨fun q => absurd rfl q, fun _ => ?_⟩) (fun u hu e => ⟨fun _ => ?_, fun q => absurd q (by decide)⟩)
  · rintro _ rfl
    exact zs_X8_noUnit (n := pg 0) (by omega) pM.1 (fun _ => ⟨fun q => absurd q (by decide), fun _ => ⟨rfl, hR0⟩⟩) (fun j hj e => (zn_out (by omega) c hj e).elim)
  · subst e
    refine zs_isSign (fun c => ⟨fun q => absurd rfl q, fun _ => ?_⟩) (fun x hx e => ⟨fun _ => ?_, fun q => absurd q (by decide)⟩)
    · rintro _ rfl
      refine zs_X8_noUnit (n := pg 0) (by omega) pM.1 (fun c => (zn_out (by omega) c hu rfl).elim) (fun j hj e => ⟨fun _ => ?_, fun q => absurd rfl q⟩)
      exact zs_inR (b := 6) (by decide) rfl (fun _ => ⟨fun _ => ⟨rfl, hR0⟩, fun q => absurd rfl q⟩) (fun j hj e => (zn_out (n := 7) (by decide) c (by omega) e).elim)
    · subst e
      refine zs_countAll (by omega) hl hp lC pC (fun J M om' um hst => zs_headsC hst (fun M2 hd => zs_cSign hl hp lC hd hu hx ?_))
      rintro _ rfl
      refine zs_X8_noUnit (n := pg 0) (by omega) pM.1 (fun c => (zn_out (by omega) c hu rfl).elim) (fun j hj e => ⟨fun _ => ?_, fun q => absurd rfl q⟩)
      refine zs_inR (b := 6) (by decide) rfl (fun c => (zn_out (n := 7) (by decide) c hx rfl).elim) (fun j hj e => ⟨fun q => absurd q (by decide), fun _ => ?_⟩)
      refine zs_standing (lx := lx) (pg := pg) hl hp lM pM z4 hu hx (fun M3 f3 => ⟨rfl, ?_⟩)
      refine zx_R_q hR (fun k j hk => hd.1 k j (by omega)) (by rw [hd.1 45 0 (by omega)]; exact z3) (fun k j h1 h2 h3 => zu_k2 (by omega)) ?_
      rw [hd.2.1 0 12 (by omega) (by omega), f3 0 28 (by omega) (by omega)]; exact z1
theorem zo_18_ok : zo_18 zx_R := by
  intro IC LC IM LM p0 hR
  have hR0 := zx_R0 hR
  obtain ⟨lx, pg, ⟨hl, hp, lC, lM, pC, pM⟩, -, -, -, -, -, ⟨z1, z2, z3, z4, z5⟩⟩ := id hR
  have h24 := hp.1
  refine zs_X6_hasUnit (n := pg 0) (by omega) pC.1 (fun c => ⟨fun _ => ?_, fun q => absurd rfl q⟩) (fun u hu e => ⟨fun q => absurd q (by decide), fun _ => ?_⟩)
  · rintro _ rfl
    exact zs_X8_noUnit (n := pg 0) (by omega) pM.1 (fun _ => ⟨fun q => absurd q (by decide), fun _ => ⟨rfl, hR0⟩⟩) (fun j hj e => (zn_out (by omega) c hj e).elim)
  · subst e
    refine zs_certain (by omega) hl hp lC pC hu (fun J M f1 f2 => ?_)
    rintro _ rfl
    refine zs_X8_noUnit (n := pg 0) (by omega) pM.1 (fun c => (zn_out (by omega) c hu rfl).elim) (fun j hj e => ⟨fun _ => ?_, fun q => absurd rfl q⟩)
    refine zs_sureAt (lx := lx) (pg := pg) hl hp lM pM z4 hu (fun M3 f3 => ⟨rfl, ?_⟩)
    refine zx_R_q hR (fun k j hk => f1 k j (by omega)) (by rw [f1 45 0 (by omega)]; exact z3) (fun k j h1 h2 h3 => zu_k2 (by omega)) ?_
    rw [f2 0 12 (by omega) (by omega), f3 0 28 (by omega) (by omega)]; exact z1
theorem zo_17_ok : zo_17 zx_R := by
  intro IC LC IM LM p0 p1 hR
  have hR0 := zx_R0 hR
  obtain ⟨lx, pg, ⟨hl, hp, lC, lM, pC, pM⟩, -, -, -, -, -, ⟨z1, z2, z3, z4, z5⟩⟩ := id hR
  have h24 := hp.1
  have h8 := hl.1
  have hsp2 : ∀ w, w < lx 0 0 → 2 ≤ zx_sp lx w := fun w hw => (zx_sp_bd hl hw).1
  refine zs_X2_hasWord (n := lx 0 0) (by omega) lC.1 (fun c => ⟨fun _ => ?_, fun q => absurd rfl q⟩) (fun w hw e => ⟨fun q => absurd q (by decide), fun _ => ?_⟩)
  · rintro _ rfl
    exact zs_X8_noWord (n := lx 0 0) (by omega) lM.1 (fun _ => ⟨fun _ => ⟨rfl, hR0⟩, fun q => absurd q (by decide)⟩) (fun j hj e => (zn_out (by omega) c hj e).elim)
  · subst e
    refine zs_X6_hasUnit (n := pg 0) (by omega) pC.1 (fun c => ⟨fun q => absurd rfl q, fun _ => ?_⟩) (fun u hu e => ⟨fun _ => ?_, fun q => absurd q (by decide)⟩)
    · rintro _ rfl
      refine zs_X8_noWord (n := lx 0 0) (by omega) lM.1 (fun c => (zn_out (by omega) c hw rfl).elim) (fun j hj e => ⟨fun q => absurd rfl q, fun _ => ?_⟩)
      exact zs_X8_noUnit (n := pg 0) (by omega) pM.1 (fun _ => ⟨fun q => absurd q (by decide), fun _ => ⟨rfl, hR0⟩⟩) (fun j hj e => (zn_out (by omega) c hj e).elim)
    · subst e
      refine zs_countAll (by omega) hl hp lC pC (fun J M om' um hst => zs_headsC hst (fun M2 hd => ?_))
      refine zs_countThrough hd.2.2.1 hd.2.2.2.2.1 hd.2.2.2.2.2 (by omega) (by omega) ?_
      rw [zk_thru (zx_fit_lt hl hp) hd.2.2.2.1 hw]
      rintro I2 e2
      have lM2 : zx_lexM 5 2 I2 lx := by rw [e2]; exact lM
      have pM2 : zx_pgM 14 0 I2 lx pg := by rw [e2]; exact pM
      have k2 : ∀ j, j < 8 → ∃ c : Nat, c < 3 ∧ I2 5 j = nI c := by rw [e2]; exact z4
      have f2 : ∀ k j, ¬ (k = 0 ∧ j = 0) → I2 k j = IM k j := fun k j hk => by rw [e2, zu_k2 hk]
      clear e2
      refine zs_X8_noWord (n := lx 0 0) (by omega) lM2.1 (fun c => (zn_out (by omega) c hw rfl).elim) (fun j hj e => ⟨fun q => absurd rfl q, fun _ => ?_⟩)
      refine zs_X8_noUnit (n := pg 0) (by omega) pM2.1 (fun c => (zn_out (by omega) c hu rfl).elim) (fun j hj e => ⟨fun _ => ?_, fun q => absurd rfl q⟩)
      refine zs_layFrom hl hp lM2 pM2 k2 (fun M3 f3 b3 => zs_layTo hl hp lM2 pM2 k2 (fun M4 f4 b4 => ?_))
      have hF : ∀ u a, u ≤ pg 0 → a ≤ 8 → M4 23 (9 * u + a) = lN (zk_F (pg 0) (lx 0 0) (zx_sp lx) (zx_fit lx pg) (zx_fo lx pg) (zx_g I2 14 lx pg) u a) := fun u a hu ha => (f4 23 _ (by omega)).trans (b3 u a hu ha)
      have fin : zx_R J M2 I2 M4 := by
        refine zx_R_q hR (fun k j hk => hd.1 k j (by omega)) (by rw [hd.1 45 0 (by omega)]; exact z3) (fun k j h1 h2 h3 => f2 k j (by omega)) ?_
        rw [hd.2.1 0 12 (by omega) (by omega), f4 0 28 (by omega), f3 0 28 (by omega)]; exact z1
      have hsum : zt_sum 9 (fun a => if zx_fit lx pg u w && zx_g I2 14 lx pg a w then zk_TO (lx 0 0) (zx_sp lx) (zx_fit lx pg) (zx_fo lx pg) u a * zk_N (pg 0) (lx 0 0) (zx_sp lx) (zx_fit lx pg) (zx_fo lx pg) u w else 0) = if zx_fit lx pg u w then zk_H (lx 0 0) (zx_sp lx) (zx_fit lx pg) (zx_fo lx pg) u w * zk_N (pg 0) (lx 0 0) (zx_sp lx) (zx_fit lx pg) (zx_fo lx pg) u w else 0 := by
        cases zx_fit lx pg u w
        · rw [zt_sum_zero]
          · rfl
          · intro a _; rfl
        · simp only [Bool.true_and, if_true]
          rw [← zk_TO_H (g := zx_g I2 14 lx pg) h8 (fun w => zx_g8) (fun a w ha => zx_gw h8 ha) (u := u) (w := w), Nat.mul_comm, ← zt_sum_mul]
          refine zt_sum_congr (fun a _ => ?_)
          cases zx_g I2 14 lx pg a w
          · simp
          · simp [Nat.mul_comm]
      rw [← hsum]
      refine ⟨fun y3 y5 => ∃ i, i ≤ 9 ∧ y5 = nI i ∧ y3 = lN (zt_sum i (fun a => if zx_fit lx pg u w && zx_g I2 14 lx pg a w then zk_TO (lx 0 0) (zx_sp lx) (zx_fit lx pg) (zx_fo lx pg) u a * zk_N (pg 0) (lx 0 0) (zx_sp lx) (zx_fit lx pg) (zx_fo lx pg) u w else 0)), fun _ y5 => 9 - y5.toNatClampNeg, ⟨0, by omega, rfl, rfl⟩, ?_⟩
      rintro y3 y5 ⟨i, hi, rfl, rfl⟩
      unfold zp_X8_begins_46b
      refine pk_lt 8 i (fun c => ?_) (fun c => ?_)
      · have : i = 9 := by omega
        subst this; exact ⟨rfl, fin⟩
      · rw [zx_9, zn_cl (n := 9 * u + i) (by omega), b4 u i (by omega) (by omega)]
        refine ⟨vp_in_nI (by omega) (by decide), ?_⟩
        rintro _ rfl
        have hbd := zk_TO_bd (op := zx_fit lx pg) (fo := zx_fo lx pg) h8 hsp2 (u := u) (a := i) (by omega)
        have stay : (if zx_fit lx pg u w && zx_g I2 14 lx pg i w then zk_TO (lx 0 0) (zx_sp lx) (zx_fit lx pg) (zx_fo lx pg) u i * zk_N (pg 0) (lx 0 0) (zx_sp lx) (zx_fit lx pg) (zx_fo lx pg) u w else 0) = 0 → zp_X8_begins_106 (fun z3 z5 => (∃ i, i ≤ 9 ∧ z5 = nI i ∧ z3 = lN (zt_sum i (fun a => if zx_fit lx pg u w && zx_g I2 14 lx pg a w then zk_TO (lx 0 0) (zx_sp lx) (zx_fit lx pg) (zx_fo lx pg) u a * zk_N (pg 0) (lx 0 0) (zx_sp lx) (zx_fit lx pg) (zx_fo lx pg) u w else 0))) ∧ 9 - z5.toNatClampNeg < 9 - (nI i).toNatClampNeg) (fun r2 IM2 LM2 => lN (zt_sum 9 (fun a => if zx_fit lx pg u w && zx_g I2 14 lx pg a w then zk_TO (lx 0 0) (zx_sp lx) (zx_fit lx pg) (zx_fo lx pg) u a * zk_N (pg 0) (lx 0 0) (zx_sp lx) (zx_fit lx pg) (zx_fo lx pg) u w else 0)) = r2 ∧ zx_R J M2 IM2 LM2) (nI w) (nI u) (nI i) (lN (zt_sum i (fun a => if zx_fit lx pg u w && zx_g I2 14 lx pg a w then zk_TO (lx 0 0) (zx_sp lx) (zx_fit lx pg) (zx_fo lx pg) u a * zk_N (pg 0) (lx 0 0) (zx_sp lx) (zx_fit lx pg) (zx_fo lx pg) u w else 0))) I2 M4 := by
          rintro q _ rfl _ rfl
          refine ⟨⟨i + 1, by omega, nI_1 i, ?_⟩, zz_down (n := 9) (by omega) (by omega)⟩
          simp only [zt_sum]; rw [q, show (0 : Int64) = lN 0 from rfl, lN_add]
        refine ⟨fun c2 => stay ?_, fun c2 => ?_⟩
        · have := (pk_lLE (b := 0) (by omega) (by omega)).mp c2
          have z : zk_TO (lx 0 0) (zx_sp lx) (zx_fit lx pg) (zx_fo lx pg) u i = 0 := by omega
          rw [z, Nat.zero_mul]; simp
        · refine zs_fits hl hp lM2 pM2 k2 hw (by omega) (by omega) (zb_br (fun q => stay (by rw [q]; rfl)) (fun q => ?_))
          have q2 := q
          rw [Bool.and_eq_true] at q2
          refine zs_behind hl hp lM2 pM2 hF hw q2.1 ?_
          rw [lN_mul, lN_add]
          rintro _ rfl _ rfl
          refine ⟨⟨i + 1, by omega, nI_1 i, ?_⟩, zz_down (n := 9) (by omega) (by omega)⟩
          simp only [zt_sum]; rw [q]; rfl
