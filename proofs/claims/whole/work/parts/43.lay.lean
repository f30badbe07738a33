def zx_fit (lx : Nat → Nat → Nat) (pg : Nat → Nat) (u w : Nat) : Bool := !(pg 1).testBit w && zx_lies lx pg w u && (decide (u + zx_sp lx w = pg 0) || zx_can lx pg (u + zx_sp lx w) 6)
def zx_fo (lx : Nat → Nat → Nat) (pg : Nat → Nat) (a w : Nat) : Bool := pg (2 + (3 * lx 4 a + lx 4 w)) == 1 || (pg (2 + (3 * lx 4 a + lx 4 w)) == 2 && lx 5 a == lx 5 w)
theorem zx_can_le {lx : Nat → Nat → Nat} {pg : Nat → Nat} {u x : Nat} (hp : zx_pgOK lx pg) (hx : x < 7) (h : zx_can lx pg u x = true) : u + lx 1 x ≤ pg 0 := by
  unfold zx_can at h
  rw [Bool.and_eq_true, decide_eq_true_eq, Bool.or_eq_true, beq_iff_eq] at h
  obtain ⟨h1, h2 | h2⟩ := h
  · have := (hp.2.2.2.2.2 u h1 (by omega)).1
    rw [h2] at this; exact this
  · unfold zx_free at h2
    rw [Bool.and_eq_true, decide_eq_true_eq] at h2
    exact h2.1
theorem zx_lies_le {lx : Nat → Nat → Nat} {pg : Nat → Nat} {u w : Nat} (hl : zx_lexOK lx) (hp : zx_pgOK lx pg) (hw : w < lx 0 0) (h : zx_lies lx pg w u = true) : u + zx_sp lx w ≤ pg 0 := by
  obtain ⟨a2, a5, -, -, al⟩ := hl.2.2.2 w hw
  unfold zx_lies at h
  rw [zt_all_iff] at h
  have h1 := h (lx 2 w - 1) (by omega)
  have h2 := al (lx 2 w - 1) (by omega)
  have h3 := zx_can_le hp (by omega) h1
  have h4 : zx_sp lx w = zx_off lx w (lx 2 w - 1) + lx 1 (lx 3 (5 * w + (lx 2 w - 1))) := by
    unfold zx_sp
    obtain ⟨n, hn⟩ : ∃ n, lx 2 w = n + 1 := ⟨lx 2 w - 1, by omega⟩
    rw [hn]; rfl
  omega
theorem zx_fit_le {lx : Nat → Nat → Nat} {pg : Nat → Nat} {u w : Nat} (hl : zx_lexOK lx) (hp : zx_pgOK lx pg) (hw : w < lx 0 0) (h : zx_fit lx pg u w = true) : u + zx_sp lx w ≤ pg 0 := by
  unfold zx_fit at h
  rw [Bool.and_eq_true, Bool.and_eq_true] at h
  exact zx_lies_le hl hp hw h.1.2
theorem zx_lexC_fr {I J : zz_I} {lx : Nat → Nat → Nat} (h : ∀ k j, k < 37 → J k j = I k j) (lC : zx_lexC 14 I lx) : zx_lexC 14 J lx := by
  have c : ∀ k, k < 37 → J k = I k := fun k hk => funext fun j => h k j hk
  unfold zx_lexC; rw [c 14 (by omega), c (14 + 1) (by omega), c (14 + 2) (by omega), c (14 + 3) (by omega), c (14 + 4) (by omega), c (14 + 5) (by omega), c (14 + 6) (by omega)]; exact lC
theorem zx_pgC_fr {I J : zz_I} {lx : Nat → Nat → Nat} {pg : Nat → Nat} {t : Nat} (ht : t < 34) (h : ∀ k j, k < 37 → J k j = I k j) (pC : zx_pgC t I lx pg) : zx_pgC t J lx pg := by
  have c : ∀ k, k < 37 → J k = I k := fun k hk => funext fun j => h k j hk
  unfold zx_pgC; rw [c t (by omega), c (t + 1) (by omega), c (t + 2) (by omega), c (t + 3) (by omega)]; exact pC
theorem zs_fill2 {k0 n0 : Nat} {x : Int32} {I : zz_I} {L : zz_L} {P : zz_I → zz_L → Prop} (hn : n0 < 2 ^ 31) (h : ∀ J : zz_I, (∀ k j, k ≠ k0 → J k j = I k j) → (∀ j, j < n0 → J k0 j = x) → P J L) : zp_J7_fill_53178 k0 n0 x P I L := by
  refine zs_fill hn (h _ (fun k j hk => ?_) (fun j hj => ?_))
  · simp only [zz_fill]; rw [if_neg (fun q => hk q.1)]
  · have : zz_fill I k0 n0 x k0 j = if k0 = k0 ∧ j < n0 then x else I k0 j := rfl
    rw [this, if_pos ⟨rfl, hj⟩]
theorem zs_fillL2 {k0 n0 : Nat} {x : Int64} {I : zz_I} {L : zz_L} {P : zz_I → zz_L → Prop} (hn : n0 < 2 ^ 31) (h : ∀ M : zz_L, (∀ k j, k ≠ k0 → M k j = L k j) → (∀ j, j < n0 → M k0 j = x) → P I M) : zp_J7_fill_d0a16 k0 n0 x P I L := by
  refine zs_fillL hn (h _ (fun k j hk => ?_) (fun j hj => ?_))
  · simp only [zz_fill]; rw [if_neg (fun q => hk q.1)]
  · have : zz_fill L k0 n0 x k0 j = if k0 = k0 ∧ j < n0 then x else L k0 j := rfl
    rw [this, if_pos ⟨rfl, hj⟩]
theorem zs_followersOf {t w : Nat} {I : zz_I} {L : zz_L} {lx : Nat → Nat → Nat} {pg : Nat → Nat} {P : Int32 → Prop} (hl : zx_lexOK lx) (hp : zx_pgOK lx pg) (lC : zx_lexC 14 I lx) (pC : zx_pgC t I lx pg) (hw : w < lx 0 0) (h : P (nI (zy_mk (lx 0 0) (zx_fo lx pg w)))) : zp_X0_followersOf t (nI w) P I L := by
  have h8 := hl.1
  refine ⟨fun y3 y4 => ∃ i, i ≤ lx 0 0 ∧ y4 = nI i ∧ y3 = nI (zy_mk i (zx_fo lx pg w)), fun _ y4 => 8 - y4.toNatClampNeg, ⟨0, by omega, rfl, rfl⟩, ?_⟩
  rintro y3 y4 ⟨i, hi, rfl, rfl⟩
  unfold zp_X0_followersOf_5b
  refine pk_le (lx 0 0) i (fun c => ?_) (fun c => ?_) (hx := lC.1)
  · have : i = lx 0 0 := by omega
    subst this; exact h
  · obtain ⟨-, kw, ew, -, -⟩ := lC.2.2 w hw
    obtain ⟨-, ki, ei, -, -⟩ := lC.2.2 i c
    have kw : I 18 w = nI (lx 4 w) := kw
    have ew : I 19 w = nI (lx 5 w) := ew
    have ki : I 18 i = nI (lx 4 i) := ki
    have ei : I 19 i = nI (lx 5 i) := ei
    obtain ⟨-, -, bw, cw, -⟩ := hl.2.2.2 w hw
    obtain ⟨-, -, bi, ci, -⟩ := hl.2.2.2 i c
    have hix : nI (lx 4 w) * (3 : Int32) + nI (lx 4 i) = nI (3 * lx 4 w + lx 4 i) := by
      rw [show nI (lx 4 w) * (3 : Int32) = nI (lx 4 w * 3) from pk_mul _ 3, nI_add, Nat.mul_comm]
    have hr : I (t + 2) (3 * lx 4 w + lx 4 i) = nI (pg (2 + (3 * lx 4 w + lx 4 i))) := pC.2.2.1 _ (by omega)
    have hr2 := hp.2.2.1 (3 * lx 4 w + lx 4 i) (by omega)
    rw [zn_cl (by omega), zn_cl (by omega), kw, ki, ew, ei, hix, zn_cl (by omega), hr]
    refine ⟨vp_in_nI (by omega) (by decide), vp_in_nI (by omega) (by decide), vp_in_nI (by omega) (by decide), ?_⟩
    rintro _ rfl
    refine ⟨vp_in_nI (by omega) (by decide), vp_in_nI (by omega) (by decide), ?_⟩
    have hno : zx_fo lx pg w i = false → ∀ v84 : Int32, v84 = nI i + 1 → (∃ i2, i2 ≤ lx 0 0 ∧ v84 = nI i2 ∧ nI (zy_mk i (zx_fo lx pg w)) = nI (zy_mk i2 (zx_fo lx pg w))) ∧ 8 - v84.toNatClampNeg < 8 - (nI i).toNatClampNeg := by
      rintro q _ rfl
      refine ⟨⟨i + 1, by omega, nI_1 i, ?_⟩, zz_down (by omega) (by omega)⟩
      simp only [zy_mk]; rw [q]; simp
    have hyes : zx_fo lx pg w i = true → zp_X0_followersOf_77 (fun z3 z4 => (∃ i2, i2 ≤ lx 0 0 ∧ z4 = nI i2 ∧ z3 = nI (zy_mk i2 (zx_fo lx pg w))) ∧ 8 - z4.toNatClampNeg < 8 - (nI i).toNatClampNeg) P t (nI w) (nI (zy_mk i (zx_fo lx pg w))) (nI i) I L := by
      rintro q _ rfl _ rfl
      refine ⟨⟨i + 1, by omega, nI_1 i, ?_⟩, zz_down (by omega) (by omega)⟩
      rw [zx_two_pow (by omega), zy_or (zy_mk_256 (by omega)) (zx_pow_lt (by omega))]
      simp only [zy_mk]; rw [q]; simp
    have go : ∀ s0 : Int32, (s0 = 0 → lx 5 w ≠ lx 5 i) → (s0 ≠ 0 → lx 5 w = lx 5 i) → zp_X0_followersOf_58 (fun z3 z4 => (∃ i2, i2 ≤ lx 0 0 ∧ z4 = nI i2 ∧ z3 = nI (zy_mk i2 (zx_fo lx pg w))) ∧ 8 - z4.toNatClampNeg < 8 - (nI i).toNatClampNeg) P t (nI w) (nI (zy_mk i (zx_fo lx pg w))) (nI i) (nI (pg (2 + (3 * lx 4 w + lx 4 i)))) s0 I L := by
      intro s0 g1 g2
      unfold zp_X0_followersOf_58
      refine pk_eq (pg (2 + (3 * lx 4 w + lx 4 i))) 1 (fun c1 => hyes ?_) (fun c1 => ⟨fun c2 => ?_, fun c2 => ⟨fun c3 => ?_, fun c3 => hyes ?_⟩⟩)
      · unfold zx_fo; simp [c1]
      · refine hno ?_
        have : pg (2 + (3 * lx 4 w + lx 4 i)) ≠ 2 := fun q => c2 (by rw [q]; rfl)
        unfold zx_fo; simp [c1, this]
      · refine hno ?_
        have := g1 c3
        unfold zx_fo; simp [c1, this]
      · have h2 : pg (2 + (3 * lx 4 w + lx 4 i)) = 2 := zn_j (j := 2) (by omega) (by decide) c2
        have := g2 c3
        unfold zx_fo; simp [h2, this]
    refine ⟨fun c1 => go 0 (fun _ q => c1 (by rw [q])) (fun q => absurd rfl q), fun c1 => go 1 (fun q => absurd q (by decide)) (fun _ => zn_j (by omega) (by omega) c1)⟩
theorem zs_holdsBlank {t u : Nat} {I : zz_I} {L : zz_L} {lx : Nat → Nat → Nat} {pg : Nat → Nat} {P : Int32 → Prop} (hl : zx_lexOK lx) (hp : zx_pgOK lx pg) (pC : zx_pgC t I lx pg) (hu : u < 2 ^ 20) (h : P (zb_i (zx_can lx pg u 6))) : zp_X6_holdsBlank t (nI u) P I L := by
  have h24 := hp.1
  have e1 : lx 1 6 = 1 := hl.2.2.1
  refine zs_X6_hasUnit (n := pg 0) (by omega) pC.1 (fun c => ⟨fun _ => ?_, fun q => absurd rfl q⟩) (fun j hj ej => ⟨fun q => absurd q (by decide), fun _ => ?_⟩)
  · have : ¬ u < pg 0 := fun q => zn_out (by omega) c q rfl
    have e : zx_can lx pg u 6 = false := by unfold zx_can; simp [this]
    rw [e] at h; exact h
  · have : u = j := zn_j (by omega) (by omega) ej
    subst this
    rw [zn_cl (by omega), pC.2.2.2.2 u hj]
    have hs := hp.2.2.2.2.1 u hj
    refine ⟨vp_in_nI (by omega) (by decide), ?_⟩
    refine pk_eq (pg (19 + u)) 6 (fun c => ?_) (fun c => ⟨vp_in_nI (by omega) (by decide), fun c2 => ?_, fun c2 => ?_⟩)
    · have e : zx_can lx pg u 6 = true := by unfold zx_can; simp [hj, c]
      rw [e] at h; exact h
    · have : pg (19 + u) ≠ 7 := fun q => c2 (by rw [q]; rfl)
      have e : zx_can lx pg u 6 = false := by unfold zx_can zx_free; rw [e1]; simp [zt_all, c, this]
      rw [e] at h; exact h
    · have : pg (19 + u) = 7 := zn_j (j := 7) (by omega) (by decide) c2
      have e : zx_can lx pg u 6 = true := by unfold zx_can zx_free; rw [e1]; simp [zt_all, this, hj]; omega
      rw [e] at h; exact h
def zk_ch (J : zz_I) (un nw : Nat) (sp : Nat → Nat) (fo : Nat → Nat → Bool) (om : Nat → Nat) : Prop :=
  J 37 6 = nI un ∧ J 37 7 = nI nw ∧ un ≤ 24 ∧ nw ≤ 8 ∧ (∀ w, w < nw → J 41 w = nI (sp w) ∧ 2 ≤ sp w ∧ sp w ≤ 15 ∧ J 40 w = nI (zy_mk nw (fo w))) ∧ (∀ u, u < 25 → J 38 u = nI (om u) ∧ om u < 256) ∧ ∀ u w, (om u).testBit w = true → w < nw ∧ u + sp w ≤ un
