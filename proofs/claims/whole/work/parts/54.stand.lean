theorem zt_split {a b : Nat} {f : Nat → Nat} : zt_sum (a + b) f = zt_sum a f + zt_sum b (fun i => f (a + i)) := by
  induction b with
  | zero => rfl
  | succ b ih => rw [← Nat.add_assoc]; simp only [zt_sum]; rw [ih]; omega
theorem zt_sum_div {m n : Nat} {f : Nat → Nat → Nat} : zt_sum (m * n) (fun k => f (k / n) (k % n)) = zt_sum m (fun a => zt_sum n (fun w => f a w)) := by
  induction m with
  | zero => rw [Nat.zero_mul]; rfl
  | succ m ih =>
    rw [Nat.succ_mul, zt_split, ih]
    simp only [zt_sum]
    congr 1
    refine zt_sum_congr (fun w hw => ?_)
    obtain ⟨d1, d2⟩ := zt_dm (b := m) hw rfl
    rw [d1, d2]
theorem zs_behind {k u w : Nat} {I : zz_I} {L : zz_L} {lx : Nat → Nat → Nat} {pg : Nat → Nat} {P : Int64 → Prop} (hl : zx_lexOK lx) (hp : zx_pgOK lx pg) (lM : zx_lexM 5 2 I lx) (pM : zx_pgM k 0 I lx pg) (hF : ∀ u a, u ≤ pg 0 → a ≤ 8 → L 23 (9 * u + a) = lN (zk_F (pg 0) (lx 0 0) (zx_sp lx) (zx_fit lx pg) (zx_fo lx pg) (zx_g I k lx pg) u a)) (hw : w < lx 0 0) (hf : zx_fit lx pg u w = true) (h : P (lN (zk_N (pg 0) (lx 0 0) (zx_sp lx) (zx_fit lx pg) (zx_fo lx pg) u w))) : zp_X8_behind k (nI w) (nI u) P I L := by
  have h8 := hl.1
  have h24 := hp.1
  have hsp := zx_sp_bd hl hw
  have hle := zx_fit_le hl hp hw hf
  have e0 : I k (0 : Int32).toNatClampNeg = nI (pg 0) := pM.1
  unfold zp_X8_behind
  rw [e0]
  refine zs_unitsOf hl lM hw ?_
  rw [nI_add]
  rintro _ rfl
  refine ⟨pk_in 0 43 (by decide), fun c => ?_, fun c => ?_⟩
  · have c2 : u + zx_sp lx w ≠ pg 0 := fun z => c (by rw [z])
    rw [show nI (u + zx_sp lx w) + (1 : Int32) = nI (u + zx_sp lx w + 1) from nI_1 _, zx_9, zn_cl (n := 9 * (u + zx_sp lx w + 1) + w) (by omega), hF _ w (by omega) (by omega)]
    refine ⟨vp_in_nI (by omega) (by decide), ?_⟩
    rw [zk_N_on (by omega) c2] at h
    have : zk_F (pg 0) (lx 0 0) (zx_sp lx) (zx_fit lx pg) (zx_fo lx pg) (zx_g I k lx pg) (u + zx_sp lx w + 1) w = zt_sum (lx 0 0) (fun v => if zx_fit lx pg (u + zx_sp lx w + 1) v && zx_fo lx pg w v then zk_N (pg 0) (lx 0 0) (zx_sp lx) (zx_fit lx pg) (zx_fo lx pg) (u + zx_sp lx w + 1) v else 0) := by
      unfold zk_F
      refine zt_sum_congr (fun v hv => ?_)
      rw [zx_gw h8 hw]
    rw [this]; exact h
  · have c2 : u + zx_sp lx w = pg 0 := zn_j (by omega) (by omega) c
    rw [zk_N_end (by omega) c2] at h
    exact h
theorem zs_hasAt {k u w t x : Nat} {I : zz_I} {L : zz_L} {lx : Nat → Nat → Nat} {pg : Nat → Nat} {P : Int32 → Prop} (hl : zx_lexOK lx) (hp : zx_pgOK lx pg) (lM : zx_lexM 5 2 I lx) (pM : zx_pgM k 0 I lx pg) (hw : w < lx 0 0) (hu : u < pg 0) (ht : t < pg 0) (hx : x < 7) (h : P (zb_i (decide (u ≤ t) && zx_at lx w (t - u) x))) : zp_X8_hasAt k (nI w) (nI u) (nI t) (nI x) P I L := by
  have h8 := hl.1
  have h24 := hp.1
  obtain ⟨a2, a5, -, -, al⟩ := hl.2.2.2 w hw
  obtain ⟨m3, -, -, m4⟩ := lM.2.2 w hw
  have m3 : I 3 w = nI (lx 2 w) := m3
  have m4 : ∀ j, j < lx 2 w → I 4 (5 * w + j) = nI (lx 3 (5 * w + j)) := m4
  have e0 : I k (0 : Int32).toNatClampNeg = nI (pg 0) := pM.1
  refine ⟨fun y6 y7 y8 => ∃ i, i ≤ lx 2 w ∧ y8 = nI i ∧ y7 = nI (u + zx_off lx w i) ∧ ∃ b : Bool, y6 = zb_i b ∧ (b = true ↔ ∃ i2, i2 < i ∧ u + zx_off lx w i2 = t ∧ lx 3 (5 * w + i2) = x), fun _ _ y8 => 5 - y8.toNatClampNeg, ⟨0, by omega, rfl, by rfl, false, rfl, ⟨fun z => Bool.noConfusion z, fun ⟨i2, z, _⟩ => absurd z (by omega)⟩⟩, ?_⟩
  rintro y6 y7 y8 ⟨i, hi, rfl, rfl, b, rfl, hb⟩
  unfold zp_X8_hasAt_9b
  have hob := zx_off_le hl hw hi
  rw [zn_cl (n := w) (by omega), m3, e0]
  refine ⟨vp_in_nI (by omega) (by decide), ?_⟩
  refine pk_le (lx 2 w) i (fun c => ?_) (fun c => ?_)
  · have ei : i = lx 2 w := by omega
    have hat : (decide (u ≤ t) && zx_at lx w (t - u) x) = (b || (decide (x = 6) && decide (u + zx_off lx w i = t))) := by
      have h1 : (b || (decide (x = 6) && decide (u + zx_off lx w i = t))) = true ↔ (decide (u ≤ t) && zx_at lx w (t - u) x) = true := by
        rw [Bool.or_eq_true, Bool.and_eq_true, Bool.and_eq_true, hb, decide_eq_true_eq, decide_eq_true_eq, decide_eq_true_eq, zx_at_iff, ei]
        constructor
        · rintro (⟨i2, z1, z2, z3⟩ | ⟨z1, z2⟩)
          · exact ⟨by omega, Or.inl ⟨i2, z1, by omega, z3⟩⟩
          · exact ⟨by omega, Or.inr ⟨z1, by unfold zx_sp; omega⟩⟩
        · rintro ⟨z0, ⟨i2, z1, z2, z3⟩ | ⟨z1, z2⟩⟩
          · exact Or.inl ⟨i2, z1, by omega, z3⟩
          · exact Or.inr ⟨z1, by unfold zx_sp at z2; omega⟩
      exact (Bool.eq_iff_iff.mpr h1).symm
    rw [hat] at h
    refine zb_rb (fun q => ?_) (fun q => ?_)
    · rw [q] at h; exact h
    · rw [q, Bool.false_or] at h
      refine ⟨fun z => ?_, fun z => ⟨fun y => ?_, fun y => ⟨pk_in 0 43 (by decide), ?_⟩⟩⟩
      · rw [decide_eq_false (fun y => z (by rw [y]; rfl))] at h; exact h
      · rw [decide_eq_false (show ¬ u + zx_off lx w i = t from fun y2 => y (by rw [y2])), Bool.and_false] at h; exact h
      · have z1 : x = 6 := zn_j (j := 6) (by omega) (by decide) z
        have z2 : u + zx_off lx w i = t := zn_j (by omega) (by omega) y
        rw [decide_eq_true z1, decide_eq_true z2] at h
        exact pk_le (pg 0) (u + zx_off lx w i) (fun c2 => by omega) (fun _ => h)
  · have hlt := al i c
    have hwd := hl.2.1 _ (show lx 3 (5 * w + i) < 7 by omega)
    have e2 : I 2 (lx 3 (5 * w + i)) = nI (lx 1 (lx 3 (5 * w + i))) := lM.2.1 _ (by omega)
    rw [zx_5', zn_cl (n := 5 * w + i) (by omega), m4 i c]
    have go : ∀ b2 : Bool, (b2 = true ↔ ∃ i2, i2 < i + 1 ∧ u + zx_off lx w i2 = t ∧ lx 3 (5 * w + i2) = x) → zp_X8_hasAt_53 (fun z6 z7 z8 => (∃ i, i ≤ lx 2 w ∧ z8 = nI i ∧ z7 = nI (u + zx_off lx w i) ∧ ∃ b : Bool, z6 = zb_i b ∧ (b = true ↔ ∃ i2, i2 < i ∧ u + zx_off lx w i2 = t ∧ lx 3 (5 * w + i2) = x)) ∧ 5 - z8.toNatClampNeg < 5 - (nI i).toNatClampNeg) P k (nI w) (nI t) (nI x) (nI (u + zx_off lx w i)) (nI i) (zb_i b2) I L := by
      intro b2 hb2
      unfold zp_X8_hasAt_53
      rw [zx_5', zn_cl (n := 5 * w + i) (by omega), m4 i c, zn_cl (n := lx 3 (5 * w + i)) (by omega), e2, nI_add]
      refine ⟨vp_in_nI (by omega) (by decide), vp_in_nI (by omega) (by decide), ?_⟩
      rintro _ rfl _ rfl
      refine ⟨⟨i + 1, by omega, nI_1 i, ?_, b2, rfl, hb2⟩, zz_down (n := 5) (by omega) (by omega)⟩
      rw [Nat.add_assoc]; rfl
    refine zb_rb (fun q => go true ⟨fun _ => ?_, fun _ => rfl⟩) (fun q => ⟨fun z => go false ⟨fun y => Bool.noConfusion y, fun y => ?_⟩, fun z => ⟨vp_in_nI (by omega) (by decide), fun y => go false ⟨fun y2 => Bool.noConfusion y2, fun y2 => ?_⟩, fun y => go true ⟨fun _ => ?_, fun _ => rfl⟩⟩⟩)
    · obtain ⟨i2, z1, z2⟩ := hb.mp q
      exact ⟨i2, by omega, z2⟩
    · obtain ⟨i2, z1, z2, z3⟩ := y
      by_cases e : i2 = i
      · subst e; exact absurd (by rw [z2]) z
      · rw [hb.mpr ⟨i2, by omega, z2, z3⟩] at q; exact q.symm
    · obtain ⟨i2, z1, z2, z3⟩ := y2
      by_cases e : i2 = i
      · subst e; exact absurd (by rw [z3]) y
      · rw [hb.mpr ⟨i2, by omega, z2, z3⟩] at q; exact q.symm
    · exact ⟨i, by omega, zn_j (by omega) (by omega) z, zn_j (by omega) (by omega) y⟩
/-- in how many readings a sign begins at a unit -/
def zk_S (lx : Nat → Nat → Nat) (pg : Nat → Nat) (t x : Nat) : Nat := zt_sum (t + 1) (fun u => zt_sum (lx 0 0) (fun w => if zx_fit lx pg u w && zx_at lx w (t - u) x then zk_H (lx 0 0) (zx_sp lx) (zx_fit lx pg) (zx_fo lx pg) u w * zk_N (pg 0) (lx 0 0) (zx_sp lx) (zx_fit lx pg) (zx_fo lx pg) u w else 0))
theorem zs_standing {k t x : Nat} {I : zz_I} {L : zz_L} {lx : Nat → Nat → Nat} {pg : Nat → Nat} {P : Int64 → zz_I → zz_L → Prop} (hl : zx_lexOK lx) (hp : zx_pgOK lx pg) (lM : zx_lexM 5 2 I lx) (pM : zx_pgM k 0 I lx pg) (hk : ∀ j, j < 8 → ∃ c : Nat, c < 3 ∧ I 5 j = nI c) (ht : t < pg 0) (hx : x < 7) (h : ∀ M : zz_L, (∀ k j, k ≠ 23 → k ≠ 24 → M k j = L k j) → P (lN (zk_S lx pg t x)) I M) : zp_X8_standing k (nI t) (nI x) P I L := by
  have h8 := hl.1
  have h24 := hp.1
  have e0 : I k (0 : Int32).toNatClampNeg = nI (pg 0) := pM.1
  have e5 : I 0 5 = nI (lx 0 0) := lM.1
  have hsp2 : ∀ w, w < lx 0 0 → 2 ≤ zx_sp lx w := fun w hw => (zx_sp_bd hl hw).1
  have hg8 : ∀ w, zx_g I k lx pg 8 w = true := fun w => zx_g8
  have hgw : ∀ a w, a < lx 0 0 → zx_g I k lx pg a w = zx_fo lx pg a w := fun a w ha => zx_gw h8 ha
  refine zs_layFrom hl hp lM pM hk (fun M1 f1 b1 => ?_)
  refine zs_layTo hl hp lM pM hk (fun M f2 b2 => ?_)
  have hF : ∀ u a, u ≤ pg 0 → a ≤ 8 → M 23 (9 * u + a) = lN (zk_F (pg 0) (lx 0 0) (zx_sp lx) (zx_fit lx pg) (zx_fo lx pg) (zx_g I k lx pg) u a) := fun u a hu ha => (f2 23 _ (by omega)).trans (b1 u a hu ha)
  have h' := h M (fun k j k1 k2 => (f2 k j k2).trans (f1 k j k1))
  obtain ⟨T, eT⟩ : ∃ T : Nat → Nat → Nat → Nat, T = fun u a w => if zx_fit lx pg u w && zx_g I k lx pg a w && (decide (u ≤ t) && zx_at lx w (t - u) x) then zk_TO (lx 0 0) (zx_sp lx) (zx_fit lx pg) (zx_fo lx pg) u a * zk_N (pg 0) (lx 0 0) (zx_sp lx) (zx_fit lx pg) (zx_fo lx pg) u w else 0 := ⟨_, rfl⟩
  have hT : ∀ u a w, T u a w = if zx_fit lx pg u w && zx_g I k lx pg a w && (decide (u ≤ t) && zx_at lx w (t - u) x) then zk_TO (lx 0 0) (zx_sp lx) (zx_fit lx pg) (zx_fo lx pg) u a * zk_N (pg 0) (lx 0 0) (zx_sp lx) (zx_fit lx pg) (zx_fo lx pg) u w else 0 := fun u a w => by rw [eT]
  clear eT
  have hS : zt_sum (pg 0) (fun u => zt_sum (9 * lx 0 0) (fun k => T u (k / lx 0 0) (k % lx 0 0))) = zk_S lx pg t x := by
    have hin : ∀ u, zt_sum (9 * lx 0 0) (fun k => T u (k / lx 0 0) (k % lx 0 0)) = zt_sum (lx 0 0) (fun w => if zx_fit lx pg u w && (decide (u ≤ t) && zx_at lx w (t - u) x) then zk_H (lx 0 0) (zx_sp lx) (zx_fit lx pg) (zx_fo lx pg) u w * zk_N (pg 0) (lx 0 0) (zx_sp lx) (zx_fit lx pg) (zx_fo lx pg) u w else 0) := by
      intro u
      rw [zt_sum_div, zt_sum_swap]
      refine zt_sum_congr (fun w hw => ?_)
      rw [show (fun a => T u a w) = fun a => if zx_fit lx pg u w && zx_g I k lx pg a w && (decide (u ≤ t) && zx_at lx w (t - u) x) then zk_TO (lx 0 0) (zx_sp lx) (zx_fit lx pg) (zx_fo lx pg) u a * zk_N (pg 0) (lx 0 0) (zx_sp lx) (zx_fit lx pg) (zx_fo lx pg) u w else 0 from funext fun a => hT u a w]
      cases zx_fit lx pg u w
      · rw [zt_sum_zero]
        · rfl
        · intro a _; rfl
      · cases (decide (u ≤ t) && zx_at lx w (t - u) x)
        · rw [zt_sum_zero]
          · rfl
          · intro a _; simp
        · simp only [Bool.true_and, Bool.and_true, if_true]
          rw [← zk_TO_H h8 hg8 hgw (u := u) (w := w), Nat.mul_comm, ← zt_sum_mul]
          refine zt_sum_congr (fun a _ => ?_)
          cases zx_g I k lx pg a w
          · simp
          · simp [Nat.mul_comm]
    rw [zt_sum_tail (j := t + 1) (by omega)]
    · unfold zk_S
      refine zt_sum_congr (fun u hu => ?_)
      rw [hin]
      refine zt_sum_congr (fun w hw => ?_)
      rw [decide_eq_true (show u ≤ t by omega), Bool.true_and]
    · intro u h1 h2
      rw [hin, zt_sum_zero]
      intro w _
      rw [decide_eq_false (show ¬ u ≤ t by omega), Bool.false_and, Bool.and_false]; rfl
  refine ⟨fun y4 y6 => ∃ i, i ≤ pg 0 ∧ y6 = nI i ∧ y4 = lN (zt_sum i (fun u => zt_sum (9 * lx 0 0) (fun k => T u (k / lx 0 0) (k % lx 0 0)))), fun _ y6 => 25 - y6.toNatClampNeg, ⟨0, by omega, rfl, rfl⟩, ?_⟩
  rintro y4 y6 ⟨i, hi, rfl, rfl⟩
  unfold zp_X8_standing_16b
  rw [e0]
  refine ⟨pk_in 0 43 (by decide), pk_le (pg 0) i (fun c => ?_) (fun c => ?_)⟩
  · have : i = pg 0 := by omega
    subst this
    rw [hS]; exact h'
  · obtain ⟨S, eS⟩ : ∃ S, S = zt_sum i (fun u => zt_sum (9 * lx 0 0) (fun k => T u (k / lx 0 0) (k % lx 0 0))) := ⟨_, rfl⟩
    rw [← eS]
    refine ⟨fun y4 y7 => ∃ kk, kk ≤ 9 * lx 0 0 ∧ y7 = nI kk ∧ y4 = lN (S + zt_sum kk (fun k => T i (k / lx 0 0) (k % lx 0 0))), fun _ y7 => 72 - y7.toNatClampNeg, ⟨0, by omega, rfl, rfl⟩, ?_⟩
    rintro y4 y7 ⟨kk, hkk, rfl, rfl⟩
    unfold zp_X8_standing_27b
    rw [e5, show (9 : Int32) * nI (lx 0 0) = nI (9 * lx 0 0) from pk_mul 9 _]
    refine pk_le (9 * lx 0 0) kk (fun c2 => ?_) (fun c2 => ?_)
    · rintro _ rfl
      refine ⟨⟨i + 1, by omega, nI_1 i, ?_⟩, zz_down (n := 25) (by omega) (by omega)⟩
      have : kk = 9 * lx 0 0 := by omega
      subst this
      rw [eS]; rfl
    · have hn0 : 0 < lx 0 0 := by omega
      have hne : ¬ nI (lx 0 0) = 0 := nI_ne0 hn0 (by omega)
      refine ⟨hne, ?_⟩
      rw [pk_div (by omega) hn0 (by omega)]
      rintro _ rfl
      refine ⟨hne, ?_⟩
      rw [show nI kk - nI (kk / lx 0 0) * nI (lx 0 0) = nI (kk % lx 0 0) by rw [← pk_div (by omega) hn0 (by omega)]; exact pk_rem (by omega) hn0 (by omega)]
      rintro _ rfl
      have hw : kk % lx 0 0 < lx 0 0 := Nat.mod_lt _ hn0
      have ha : kk / lx 0 0 < 9 := (Nat.div_lt_iff_lt_mul hn0).mpr c2
      have hTO := b2 i (kk / lx 0 0) (by omega) (by omega)
      have hbd := zk_TO_bd (op := zx_fit lx pg) (fo := zx_fo lx pg) h8 hsp2 (u := i) (a := kk / lx 0 0) (by omega)
      have hnext : ∀ r : Nat, r = (if zx_fit lx pg i (kk % lx 0 0) && zx_g I k lx pg (kk / lx 0 0) (kk % lx 0 0) && (decide (i ≤ t) && zx_at lx (kk % lx 0 0) (t - i) x) then zk_TO (lx 0 0) (zx_sp lx) (zx_fit lx pg) (zx_fo lx pg) i (kk / lx 0 0) * zk_N (pg 0) (lx 0 0) (zx_sp lx) (zx_fit lx pg) (zx_fo lx pg) i (kk % lx 0 0) else 0) → S + zt_sum kk (fun k => T i (k / lx 0 0) (k % lx 0 0)) + r = S + zt_sum (kk + 1) (fun k => T i (k / lx 0 0) (k % lx 0 0)) := by
        rintro r rfl
        rw [Nat.add_assoc, ← hT]; rfl
      generalize kk % lx 0 0 = w at hw hnext ⊢
      generalize kk / lx 0 0 = a at ha hTO hbd hnext ⊢
      rw [zx_9, zn_cl (n := 9 * i + a) (by omega), hTO]
      refine ⟨vp_in_nI (by omega) (by decide), ?_⟩
      have stay : (if zx_fit lx pg i w && zx_g I k lx pg a w && (decide (i ≤ t) && zx_at lx w (t - i) x) then zk_TO (lx 0 0) (zx_sp lx) (zx_fit lx pg) (zx_fo lx pg) i a * zk_N (pg 0) (lx 0 0) (zx_sp lx) (zx_fit lx pg) (zx_fo lx pg) i w else 0) = 0 → ∀ v131 : Int32, v131 = nI kk + 1 → (∃ k2, k2 ≤ 9 * lx 0 0 ∧ v131 = nI k2 ∧ lN (S + zt_sum kk (fun k => T i (k / lx 0 0) (k % lx 0 0))) = lN (S + zt_sum k2 (fun k => T i (k / lx 0 0) (k % lx 0 0)))) ∧ 72 - v131.toNatClampNeg < 72 - (nI kk).toNatClampNeg := by
        rintro q _ rfl
        refine ⟨⟨kk + 1, by omega, nI_1 kk, ?_⟩, zz_down (n := 72) (by omega) (by omega)⟩
        rw [← hnext 0 q.symm]; rfl
      refine ⟨fun c3 => stay ?_, fun c3 => ?_⟩
      · have := (pk_lLE (b := 0) (by omega) (by omega)).mp c3
        have z : zk_TO (lx 0 0) (zx_sp lx) (zx_fit lx pg) (zx_fo lx pg) i a = 0 := by omega
        rw [z, Nat.zero_mul]; simp
      · refine zs_fits hl hp lM pM hk hw (by omega) (by omega) (zb_br (fun q => stay ?_) (fun q => ?_))
        · rw [q]; rfl
        · have q2 := q
          rw [Bool.and_eq_true] at q2
          refine zs_hasAt hl hp lM pM hw (by omega) ht hx (zb_br (fun r => stay ?_) (fun r => ⟨vp_in_nI (by omega) (by decide), ?_⟩))
          · rw [r, Bool.and_false]; rfl
          · refine zs_behind hl hp lM pM hF hw q2.1 ?_
            rw [lN_mul, lN_add]
            rintro _ rfl _ rfl
            refine ⟨⟨kk + 1, by omega, nI_1 kk, ?_⟩, zz_down (n := 72) (by omega) (by omega)⟩
            rw [hnext _ (by rw [q, r]; rfl)]
