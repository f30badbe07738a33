/-- the readings of a set of words -/
def zk_V (lx : Nat → Nat → Nat) (pg : Nat → Nat) (s : Nat) : Nat := zk_A (pg 0) (lx 0 0) (zx_sp lx) (fun u w => zx_fit lx pg u w && s.testBit w) (zx_fo lx pg)
theorem zk_A_congr {un nw : Nat} {sp : Nat → Nat} {op op' fo : Nat → Nat → Bool} (h : ∀ u w, w < nw → op' u w = op u w) : zk_A un nw sp op' fo = zk_A un nw sp op fo := by
  unfold zk_A
  refine zt_sum_congr (fun w hw => ?_)
  rw [h 0 w hw, zk_N_congr h un 0 w (by omega)]
theorem zk_A_mono {un nw : Nat} {sp : Nat → Nat} {op op' fo : Nat → Nat → Bool} (h : ∀ u w, op' u w = true → op u w = true) : zk_A un nw sp op' fo ≤ zk_A un nw sp op fo := by
  unfold zk_A
  refine zt_sum_mono (fun w hw => ?_)
  cases q : op' 0 w
  · simp
  · rw [h 0 w q]; simpa using zk_N_mono h un 0 w (by omega)
theorem zx_fit_set {lx : Nat → Nat → Nat} {pg : Nat → Nat} {m u w : Nat} : zx_fit lx (zx_set pg 1 m) u w = (!m.testBit w && zx_lies lx pg w u && (decide (u + zx_sp lx w = pg 0) || zx_can lx pg (u + zx_sp lx w) 6)) := by
  have h0 : zx_set pg 1 m 0 = pg 0 := zx_set_ne (by omega)
  have h1 : zx_set pg 1 m 1 = m := zx_set_at
  have hs : ∀ j, zx_set pg 1 m (19 + j) = pg (19 + j) := fun j => zx_set_ne (by omega)
  have hfree : ∀ u n, zx_free (zx_set pg 1 m) u n = zx_free pg u n := by
    intro u n
    unfold zx_free
    rw [h0]
    congr 1
    exact zt_all_congr (fun i _ => by rw [hs])
  have hcan : ∀ u x, zx_can lx (zx_set pg 1 m) u x = zx_can lx pg u x := by
    intro u x
    unfold zx_can
    rw [h0, hs, hfree]
  unfold zx_fit
  rw [h0, h1, hcan]
  congr 2
  unfold zx_lies
  exact zt_all_congr (fun i _ => hcan _ _)
theorem zx_fo_set {lx : Nat → Nat → Nat} {pg : Nat → Nat} {m : Nat} : zx_fo lx (zx_set pg 1 m) = zx_fo lx pg := by
  funext a w
  unfold zx_fo
  rw [zx_set_ne (by omega)]
theorem zs_weighSets {I : zz_I} {L : zz_L} {lx : Nat → Nat → Nat} {pg : Nat → Nat} {P : zz_I → zz_L → Prop} (hl : zx_lexOK lx) (hp : zx_pgOK lx pg) (lM : zx_lexM 5 2 I lx) (pM : zx_pgM 14 0 I lx pg) (hk : ∀ j, j < 8 → ∃ c : Nat, c < 3 ∧ I 5 j = nI c) (h : ∀ (J : zz_I) (M : zz_L), (∀ k j, k ≠ 15 → J k j = I k j) → (∀ k j, k ≠ 23 → k ≠ 26 → M k j = L k j) → (∀ s, s < 2 ^ lx 0 0 → M 26 s = lN (zk_V lx pg s)) → P J M) : zp_X8_weighSets P I L := by
  have h8 := hl.1
  have h24 := hp.1
  have hb1 := hp.2.1
  have hN : 2 ^ lx 0 0 ≤ 256 := Nat.pow_le_pow_right (n := 2) (by decide) h8
  have hN1 : 1 ≤ 2 ^ lx 0 0 := Nat.one_le_two_pow
  refine zs_lay15 (fun J0 f0 b0 => ?_)
  have pM0 : zx_pgM 15 0 J0 lx (zx_set pg 1 (pg 1)) := by
    have : zx_set pg 1 (pg 1) = pg := by
      funext j; unfold zx_set; split
      · rename_i q; rw [q]
      · rfl
    rw [this]
    exact zx_pgM_of (k := 14) (o := 0) h8 (by omega) pM (fun j hj => by rw [Nat.zero_add, b0 j hj])
  refine ⟨fun y J M => ∃ i m, i ≤ 2 ^ lx 0 0 ∧ y = nI i ∧ m < 256 ∧ zx_pgM 15 0 J lx (zx_set pg 1 m) ∧ (∀ k j, k ≠ 15 → J k j = I k j) ∧ (∀ k j, k ≠ 23 → k ≠ 26 → M k j = L k j) ∧ ∀ s, s < i → M 26 s = lN (zk_V lx pg s), fun y _ _ => 256 - y.toNatClampNeg, ⟨0, pg 1, by omega, rfl, hb1, pM0, f0, fun _ _ _ _ => rfl, fun s hs => absurd hs (by omega)⟩, ?_⟩
  rintro y J M ⟨i, m, hi, rfl, hm, hpg, hf, hfL, hb⟩
  unfold zp_X8_weighSets_13b
  have e5 : J 0 5 = nI (lx 0 0) := (hf 0 5 (by omega)).trans lM.1
  rw [e5, zx_two_pow8 h8]
  refine pk_le (2 ^ lx 0 0) i (fun c => h J M hf hfL (fun s hs => hb s (by omega))) (fun c => ?_)
  refine ⟨pk_in 1 43 (by decide), pk_in 1 43 (by decide), ?_⟩
  have e14 : J 14 (1 : Int32).toNatClampNeg = nI (pg 1) := (hf 14 1 (by omega)).trans pM.2.1
  rw [e14, show nI (2 ^ lx 0 0) - (1 : Int32) = nI (2 ^ lx 0 0 - 1) from pk_sub (b := 1) hN1, zy_andc (by omega) (by omega), zy_or hb1 (Nat.lt_of_le_of_lt Nat.and_le_left (by omega))]
  have hml : pg 1 ||| ((2 ^ lx 0 0 - 1) &&& (2 ^ 32 - (i + 1))) < 256 := zy_or_lt hb1 (Nat.lt_of_le_of_lt Nat.and_le_left (by omega))
  have hmb : ∀ w, w < lx 0 0 → (pg 1 ||| ((2 ^ lx 0 0 - 1) &&& (2 ^ 32 - (i + 1)))).testBit w = ((pg 1).testBit w || !i.testBit w) := by
    intro w hw
    rw [Nat.testBit_or, zy_andc_bit (by omega) (by omega), Nat.testBit_two_pow_sub_one, decide_eq_true hw, Bool.true_and]
  generalize pg 1 ||| ((2 ^ lx 0 0 - 1) &&& (2 ^ 32 - (i + 1))) = m2 at *
  rintro J2 e2
  have f2 : ∀ k j, k ≠ 15 → J2 k j = I k j := fun k j hk => by rw [e2, zu_k hk]; exact hf k j hk
  have hpg2 : zx_pgM 15 0 J2 lx (zx_set pg 1 m2) := by
    have h1 := zx_set_Mk (i := 1) (v := m2) hpg (by omega)
    have : zx_set (zx_set pg 1 m) 1 m2 = zx_set pg 1 m2 := by
      funext j; unfold zx_set; split <;> rfl
    rw [this] at h1
    rw [e2]; exact h1
  clear e2
  have mI : ∀ k, k ≠ 15 → J2 k = I k := fun k hk => funext fun j => f2 k j hk
  have lMJ : zx_lexM 5 2 J2 lx := by
    unfold zx_lexM; rw [mI 0 (by omega), mI 2 (by omega), mI (2 + 1) (by omega), mI (2 + 2) (by omega), mI (2 + 3) (by omega), mI (2 + 4) (by omega)]; exact lM
  have hOK : zx_pgOK lx (zx_set pg 1 m2) := (zx_set_OK hp (Or.inl ⟨rfl, hml⟩)).1
  refine zs_all hl hOK lMJ hpg2 (by rw [mI 5 (by omega)]; exact hk) (fun M2 fM2 => ⟨vp_in_nI (by omega) (by decide), ?_⟩)
  have hV : zk_A (zx_set pg 1 m2 0) (lx 0 0) (zx_sp lx) (zx_fit lx (zx_set pg 1 m2)) (zx_fo lx (zx_set pg 1 m2)) = zk_V lx pg i := by
    rw [zx_fo_set, show zx_set pg 1 m2 0 = pg 0 from zx_set_ne (by omega)]
    refine zk_A_congr (fun u w hw => ?_)
    rw [zx_fit_set, hmb w hw]
    unfold zx_fit
    cases (pg 1).testBit w <;> cases i.testBit w <;> simp
  rw [hV, zn_cl (n := i) (by omega)]
  rintro _ rfl _ rfl
  refine ⟨⟨i + 1, m2, by omega, nI_1 i, hml, hpg2, f2, fun k j k1 k2 => (zu_k k2).trans ((fM2 k j k1).trans (hfL k j k1 k2)), fun s hs => ?_⟩, zz_down (n := 256) (by omega) (by omega)⟩
  by_cases e : s = i
  · subst e; rw [zu_e]
  · rw [zu_i e, fM2 26 s (by omega)]; exact hb s (by omega)
theorem zk_V_mono {lx : Nat → Nat → Nat} {pg : Nat → Nat} {s t : Nat} : zk_V lx pg s ≤ zk_V lx pg (s ||| t) := by
  unfold zk_V
  refine zk_A_mono (fun u w q => ?_)
  rw [Bool.and_eq_true] at q ⊢
  rw [Nat.testBit_or, q.2]
  exact ⟨q.1, rfl⟩
/-- a word that no reading has changes nothing -/
theorem zk_V_dummy {lx : Nat → Nat → Nat} {pg : Nat → Nat} {om' : Nat → Nat} (h : zk_op (pg 0) (lx 0 0) (zx_sp lx) (zx_fo lx pg) (zx_fit lx pg) om') {j : Nat} (hj : ∀ u, (om' u).testBit j = false) (s : Nat) : zk_V lx pg (s ||| 2 ^ j) = zk_V lx pg s := by
  have e : ∀ s, zk_V lx pg s = zk_A (pg 0) (lx 0 0) (zx_sp lx) (fun u w => (om' u).testBit w && s.testBit w) (zx_fo lx pg) := fun s => (zk_A_op h (fun w => s.testBit w)).symm
  rw [e, e]
  have : (fun u w => (om' u).testBit w && (s ||| 2 ^ j).testBit w) = fun u w => (om' u).testBit w && s.testBit w := by
    funext u w
    rw [Nat.testBit_or, zy_2]
    by_cases q : j = w
    · subst q; rw [hj u]; rfl
    · rw [decide_eq_false q, Bool.or_false]
  rw [this]
theorem zs_countV {I J : zz_I} {L M0 M : zz_L} {lx : Nat → Nat → Nat} {pg : Nat → Nat} {om' : Nat → Nat} {um s : Nat} {P : Int64 → zz_I → zz_L → Prop} (hst : zk_st I J L M0 (pg 0) (lx 0 0) (zx_sp lx) (zx_fo lx pg) (zx_fit lx pg) om' um) (hs : s < 256) (hM : ∀ k j, k ≠ 43 → M k j = L k j) (h : ∀ M2 : zz_L, (∀ k j, k ≠ 43 → M2 k j = L k j) → P (lN (zk_V lx pg s)) J M2) : zp_X0_countFrom (nI s) P J M := by
  obtain ⟨a, b, c, d, -⟩ := hst
  refine zs_countFrom c hs (fun M2 f2 _ => ?_)
  have := h M2 (fun k j hk => (f2 k j hk).trans (hM k j hk))
  unfold zk_V at this
  rw [← zk_A_op d (fun w => s.testBit w)] at this
  exact this
theorem zd_sub_iff {n t : Nat} {D : Nat → Bool} : zd_sub n D t = true ↔ ∀ k, k < n → t.testBit k = true → D k = true := by
  unfold zd_sub
  rw [zt_all_iff]
  constructor
  · intro h k hk hb
    have := h k hk
    rw [hb] at this; exact this
  · intro h k hk
    cases q : t.testBit k
    · rfl
    · rw [h k hk q]; rfl
theorem zd_on_le {n t : Nat} {D : Nat → Bool} (h : zd_sub n D t = true) : zd_on n t ≤ zd_n n D := by
  refine zt_sum_mono (fun k hk => ?_)
  cases q : t.testBit k
  · simp
  · rw [zd_sub_iff.mp h k hk q]; exact Nat.le_refl _
theorem zd_on_n {n t : Nat} : zd_on n t ≤ n := by
  have := zt_sum_le (n := n) (c := 1) (f := fun k => if t.testBit k then 1 else 0) (fun k _ => by split <;> omega)
  unfold zd_on; omega
theorem zd_bf_bd : ∀ N, N ≤ 8 → ∀ c, c < N → zd_bf N c ≤ 5040 := by decide +kernel
theorem zd_f_pos : ∀ n, 0 < zd_f n
  | 0 => by decide
  | n + 1 => Nat.mul_pos (by omega) (zd_f_pos n)
theorem zd_f_bd : ∀ n, n ≤ 8 → zd_f n ≤ 40320 := by decide +kernel
theorem zd_mask_le {n t : Nat} {um : Nat} (ht : t < 2 ^ n) (h : ∀ k, k < n → t.testBit k = true → um.testBit k = true) : t ≤ um := by
  have : t &&& um = t := by
    apply zy_eq
    intro v
    rw [Nat.testBit_and]
    by_cases hv : v < n
    · cases q : t.testBit v
      · rfl
      · rw [h v hv q]; rfl
    · rw [Nat.testBit_lt_two_pow (Nat.lt_of_lt_of_le ht (Nat.pow_le_pow_right (by decide) (by omega)))]; rfl
  rw [← this]; exact Nat.and_le_right
theorem zd_um_lt {n um : Nat} (hn : n ≤ 8) (hu : um < 256) (h : ∀ w, um.testBit w = true → w < n) : um < 2 ^ n := by
  refine Nat.lt_pow_two_of_testBit um (fun i hi => ?_)
  cases q : um.testBit i
  · rfl
  · have := h i q; omega
