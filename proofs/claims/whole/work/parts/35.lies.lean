/-! where signs and words can lie -/
def zx_free (pg : Nat → Nat) (u n : Nat) : Bool := decide (u + n ≤ pg 0) && zt_all n (fun i => pg (19 + (u + i)) == 7)
def zx_can (lx : Nat → Nat → Nat) (pg : Nat → Nat) (u x : Nat) : Bool := decide (u < pg 0) && (pg (19 + u) == x || zx_free pg u (lx 1 x))
def zx_lies (lx : Nat → Nat → Nat) (pg : Nat → Nat) (w u : Nat) : Bool := zt_all (lx 2 w) (fun j => zx_can lx pg (u + zx_off lx w j) (lx 3 (5 * w + j)))
def zx_gaps (pg : Nat → Nat) : Nat := zt_sum (pg 0) (fun u => if pg (19 + u) = 7 then 1 else 0)
theorem zx_off_le {lx : Nat → Nat → Nat} (hl : zx_lexOK lx) {w j : Nat} (hw : w < lx 0 0) (hj : j ≤ lx 2 w) : zx_off lx w j ≤ j * 3 := zt_sum_le (fun i hi => (hl.2.1 _ (by have := (hl.2.2.2 w hw).2.2.2.2 i (by omega); omega)).2)
theorem zx_off_ge {lx : Nat → Nat → Nat} (hl : zx_lexOK lx) {w j : Nat} (hw : w < lx 0 0) (hj : j ≤ lx 2 w) : j ≤ zx_off lx w j := by
  have := zt_sum_ge (n := j) (c := 1) (f := fun i => lx 1 (lx 3 (5 * w + i))) (fun i hi => (hl.2.1 _ (by have := (hl.2.2.2 w hw).2.2.2.2 i (by omega); omega)).1)
  unfold zx_off; omega
theorem zx_sp_bd {lx : Nat → Nat → Nat} (hl : zx_lexOK lx) {w : Nat} (hw : w < lx 0 0) : 2 ≤ zx_sp lx w ∧ zx_sp lx w ≤ 15 := by
  have h1 := zx_off_le hl hw (Nat.le_refl _)
  have h2 := zx_off_ge hl hw (Nat.le_refl _)
  have h3 := hl.2.2.2 w hw
  unfold zx_sp
  omega
theorem zx_wd_bd {lx : Nat → Nat → Nat} (hl : zx_lexOK lx) {x : Nat} (hx : x < 7) : 1 ≤ lx 1 x ∧ lx 1 x ≤ 3 := hl.2.1 x hx
theorem zx_gaps_le {pg : Nat → Nat} : zx_gaps pg ≤ pg 0 := by
  have := zt_sum_le (n := pg 0) (c := 1) (f := fun u => if pg (19 + u) = 7 then 1 else 0) (fun i _ => by show (if pg (19 + i) = 7 then 1 else 0) ≤ 1; split <;> omega)
  unfold zx_gaps; omega
theorem zx_5 {w j : Nat} : nI w * (5 : Int32) + nI j = nI (5 * w + j) := by
  rw [show nI w * (5 : Int32) = nI (w * 5) from pk_mul w 5, nI_add, Nat.mul_comm]
theorem zx_5' {w j : Nat} : (5 : Int32) * nI w + nI j = nI (5 * w + j) := by
  rw [show (5 : Int32) * nI w = nI (5 * w) from pk_mul 5 w, nI_add]
theorem zs_unitsOf {I : zz_I} {L : zz_L} {lx : Nat → Nat → Nat} {w : Nat} {P : Int32 → Prop} (hl : zx_lexOK lx) (lM : zx_lexM 5 2 I lx) (hw : w < lx 0 0) (h : P (nI (zx_sp lx w))) : zp_X8_unitsOf (nI w) P I L := by
  have h8 := hl.1
  obtain ⟨s2, s5, -, -, hlt⟩ := hl.2.2.2 w hw
  obtain ⟨m1, -, -, m4⟩ := lM.2.2 w hw
  refine ⟨fun y2 y3 => ∃ j, j ≤ lx 2 w ∧ y3 = nI j ∧ y2 = nI (zx_off lx w j), fun _ y3 => 5 - y3.toNatClampNeg, ⟨0, by omega, rfl, rfl⟩, ?_⟩
  rintro y2 y3 ⟨j, hj, rfl, rfl⟩
  unfold zp_X8_unitsOf_4b
  rw [zn_cl (by omega), show I 3 w = nI (lx 2 w) from m1]
  refine ⟨vp_in_nI (by omega) (by decide), pk_le (lx 2 w) j (fun c => ?_) (fun c => ?_)⟩
  · have : j = lx 2 w := by omega
    subst this; exact h
  · have hx := hlt j c
    rw [zx_5', zn_cl (by omega), show I 4 (5 * w + j) = nI (lx 3 (5 * w + j)) from m4 j c, zn_cl (by omega), lM.2.1 _ (by omega)]
    refine ⟨vp_in_nI (by omega) (by decide), vp_in_nI (by omega) (by decide), ?_⟩
    rintro v31 rfl v32 rfl
    exact ⟨⟨j + 1, c, nI_1 j, nI_add _ _⟩, zz_down (n := 5) (by omega) (by decide)⟩
theorem zs_countGaps {t : Nat} {I : zz_I} {L : zz_L} {lx : Nat → Nat → Nat} {pg : Nat → Nat} {P : Int32 → Prop} (hp : zx_pgOK lx pg) (pC : zx_pgC t I lx pg) (h : P (nI (zx_gaps pg))) : zp_X6_countGaps t P I L := by
  have hu := hp.1
  refine ⟨fun y1 y2 => ∃ j, j ≤ pg 0 ∧ y2 = nI j ∧ y1 = nI (zt_sum j (fun u => if pg (19 + u) = 7 then 1 else 0)), fun _ y2 => 24 - y2.toNatClampNeg, ⟨0, by omega, rfl, rfl⟩, ?_⟩
  rintro y1 y2 ⟨j, hj, rfl, rfl⟩
  unfold zp_X6_countGaps_4b
  rw [pC.1]
  refine pk_le (pg 0) j (fun c => ?_) (fun c => ?_)
  · have : j = pg 0 := by omega
    subst this; exact h
  · rw [zn_cl (by omega), pC.2.2.2.2 j c]
    have h8 := hp.2.2.2.2.1 j c
    refine ⟨vp_in_nI (by omega) (by decide), fun q => ?_, fun q => ?_⟩
    · rintro v26 rfl
      refine ⟨⟨j + 1, by omega, nI_1 j, ?_⟩, zz_down (n := 24) (by omega) (by decide)⟩
      have : ¬ (pg (19 + j) = 7) := fun z => q (by rw [z]; rfl)
      simp only [zt_sum]; rw [if_neg this, Nat.add_zero]
    · rintro v23 rfl v26 rfl
      refine ⟨⟨j + 1, by omega, nI_1 j, ?_⟩, zz_down (n := 24) (by omega) (by decide)⟩
      have : pg (19 + j) = 7 := zn_j (by omega) (by decide) q
      simp only [zt_sum]; rw [if_pos this]; exact nI_1 _
theorem zs_gaps {k : Nat} {I : zz_I} {L : zz_L} {lx : Nat → Nat → Nat} {pg : Nat → Nat} {P : Int32 → Prop} (hp : zx_pgOK lx pg) (pM : zx_pgM k 0 I lx pg) (h : P (nI (zx_gaps pg))) : zp_X8_gaps k P I L := by
  have hu := hp.1
  refine ⟨fun y1 y2 => ∃ j, j ≤ pg 0 ∧ y2 = nI j ∧ y1 = nI (zt_sum j (fun u => if pg (19 + u) = 7 then 1 else 0)), fun _ y2 => 24 - y2.toNatClampNeg, ⟨0, by omega, rfl, rfl⟩, ?_⟩
  rintro y1 y2 ⟨j, hj, rfl, rfl⟩
  unfold zp_X8_gaps_4b
  have e0 : I k (0 : Int32).toNatClampNeg = nI (pg 0) := pM.1
  rw [e0]
  refine ⟨pk_in 0 43 (by decide), pk_le (pg 0) j (fun c => ?_) (fun c => ?_)⟩
  · have : j = pg 0 := by omega
    subst this; exact h
  · have e1 := pM.2.2.2.2 j c
    rw [Nat.zero_add] at e1
    rw [show (19 : Int32) + nI j = nI (19 + j) from nI_add 19 j, zn_cl (by omega), e1]
    have h8 := hp.2.2.2.2.1 j c
    refine ⟨vp_in_nI (by omega) (by decide), fun q => ?_, fun q => ?_⟩
    · rintro v29 rfl v30 rfl
      refine ⟨⟨j + 1, by omega, nI_1 j, ?_⟩, zz_down (n := 24) (by omega) (by decide)⟩
      have : ¬ (pg (19 + j) = 7) := fun z => q (by rw [z]; rfl)
      simp only [zt_sum]; rw [if_neg this]; exact nI_add _ 0
    · rintro v29 rfl v30 rfl
      refine ⟨⟨j + 1, by omega, nI_1 j, ?_⟩, zz_down (n := 24) (by omega) (by decide)⟩
      have : pg (19 + j) = 7 := zn_j (by omega) (by decide) q
      simp only [zt_sum]; rw [if_pos this]; exact nI_1 _
theorem zs_widthOf {b x : Nat} {I : zz_I} {L : zz_L} {lx : Nat → Nat → Nat} {P : Int32 → Prop} (e : ∀ j, j < 7 → I (b + 1) j = nI (lx 1 j)) (hx : x < 7) (h : P (nI (lx 1 x))) : zp_X2_widthOf b (nI x) P I L := by
  refine ⟨fun c => absurd c (nI_pos (by omega)), fun _ => ⟨fun c => absurd ((nI_leI (a := 7) (by decide) (by omega)).mp c) (by omega), fun _ => ?_⟩⟩
  rw [zn_cl (by omega), e x hx]
  exact ⟨vp_in_nI (by omega) (by decide), h⟩
theorem zs_letterOf {w j : Nat} {I : zz_I} {L : zz_L} {lx : Nat → Nat → Nat} {P : Int32 → Prop} (hl : zx_lexOK lx) (lC : zx_lexC 14 I lx) (hw : w < lx 0 0) (hj : j < lx 2 w) (h : P (nI (lx 3 (5 * w + j)))) : zp_X2_letterOf (nI w) (nI j) P I L := by
  have h8 := hl.1
  have h5 := (hl.2.2.2 w hw).2.1
  have e := (lC.2.2 w hw).2.2.2.2 j hj
  unfold zp_X2_letterOf
  rw [lC.1]
  refine ⟨fun c => absurd c (nI_pos (by omega)), fun _ => ⟨fun c => absurd ((nI_leI (by omega) (by omega)).mp c) (by omega), fun _ => ⟨fun c => absurd c (nI_pos (by omega)), fun _ => ⟨fun c => absurd ((nI_leI (a := 5) (by decide) (by omega)).mp c) (by omega), fun _ => ?_⟩⟩⟩⟩
  refine ⟨fun c => absurd c (by decide), fun _ => ?_⟩
  rw [zx_5, zn_cl (by omega), show I 16 (5 * w + j) = nI (lx 3 (5 * w + j)) from e]
  exact ⟨vp_in_nI (by omega) (by decide), h⟩
theorem zs_isFree {t u n : Nat} {I : zz_I} {L : zz_L} {lx : Nat → Nat → Nat} {pg : Nat → Nat} {P : Int32 → Prop} (hp : zx_pgOK lx pg) (pC : zx_pgC t I lx pg) (hu : u < 2 ^ 20) (hn : n ≤ 3) (h : P (zb_i (zx_free pg u n))) : zp_X6_isFree t (nI u) (nI n) P I L := by
  have hu24 := hp.1
  unfold zp_X6_isFree
  rw [pC.1, nI_add]
  refine ⟨fun c => absurd c (nI_pos (by omega)), fun _ => pk_le (u + n) (pg 0) (fun c => ?_) (fun c => ?_)⟩
  · refine ⟨fun y => ∃ i, i ≤ n ∧ y = nI i ∧ zt_all i (fun i => pg (19 + (u + i)) == 7) = true, fun y => 3 - y.toNatClampNeg, ⟨0, by omega, rfl, rfl⟩, ?_⟩
    rintro y ⟨i, hi, rfl, ha⟩
    unfold zp_X6_isFree_18b
    refine pk_le n i (fun c2 => ?_) (fun c2 => ?_)
    · have : i = n := by omega
      subst this
      have : zx_free pg u i = true := by unfold zx_free; rw [ha, decide_eq_true c]; rfl
      rw [this] at h; exact h
    · rw [nI_add, zn_cl (by omega), pC.2.2.2.2 (u + i) (by omega)]
      have h8 := hp.2.2.2.2.1 (u + i) (by omega)
      refine ⟨vp_in_nI (by omega) (by decide), fun q => ?_, fun q => ?_⟩
      · rintro v rfl
        have : pg (19 + (u + i)) = 7 := zn_j (by omega) (by decide) q
        refine ⟨⟨i + 1, by omega, nI_1 i, ?_⟩, zz_down (n := 3) (by omega) (by decide)⟩
        simp only [zt_all, ha, this]; rfl
      · have : ¬ (pg (19 + (u + i)) = 7) := fun z => q (by rw [z]; rfl)
        have hf : zx_free pg u n = false := by
          cases hb : zx_free pg u n with
          | false => rfl
          | true =>
            unfold zx_free at hb
            rw [Bool.and_eq_true] at hb
            have := zt_all_iff.mp hb.2 i c2
            simp at this; contradiction
        rw [hf] at h; exact h
  · have hf : zx_free pg u n = false := by unfold zx_free; rw [decide_eq_false (by omega)]; rfl
    rw [hf] at h; exact h
theorem zs_isInGaps {k u x : Nat} {I : zz_I} {L : zz_L} {lx : Nat → Nat → Nat} {pg : Nat → Nat} {P : Int32 → Prop} (hl : zx_lexOK lx) (hp : zx_pgOK lx pg) (lM : zx_lexM 5 2 I lx) (pM : zx_pgM k 0 I lx pg) (hu : u < 2 ^ 20) (hx : x < 7) (h : P (zb_i (zx_free pg u (lx 1 x)))) : zp_X8_isInGaps k (nI u) (nI x) P I L := by
  have hu24 := hp.1
  have hw := zx_wd_bd hl hx
  have e0 : I k (0 : Int32).toNatClampNeg = nI (pg 0) := pM.1
  unfold zp_X8_isInGaps
  rw [e0, zn_cl (by omega), lM.2.1 x hx, nI_add]
  refine ⟨vp_in_nI (by omega) (by decide), pk_in 0 43 (by decide), pk_lt (pg 0) (u + lx 1 x) (fun c => ?_) (fun c => ?_)⟩
  · have hf : zx_free pg u (lx 1 x) = false := by unfold zx_free; rw [decide_eq_false (by omega)]; rfl
    rw [hf] at h
    refine ⟨fun a b => a = 0 ∧ b = 0, fun _ _ => 0, ⟨rfl, rfl⟩, ?_⟩
    rintro a b ⟨rfl, rfl⟩
    unfold zp_X8_isInGaps_24b
    rw [zn_cl (by omega), lM.2.1 x hx]
    refine ⟨vp_in_nI (by omega) (by decide), fun c2 => ⟨Or.inl rfl, h⟩, fun c2 => ⟨fun _ => ⟨Or.inl rfl, h⟩, fun q => absurd rfl q⟩⟩
  · refine ⟨fun a b => ∃ i, i ≤ lx 1 x ∧ b = nI i ∧ a = zb_i (zt_all i (fun i => pg (19 + (u + i)) == 7)), fun _ b => 3 - b.toNatClampNeg, ⟨0, by omega, rfl, rfl⟩, ?_⟩
    rintro a b ⟨i, hi, rfl, rfl⟩
    unfold zp_X8_isInGaps_24b
    rw [zn_cl (by omega), lM.2.1 x hx]
    refine ⟨vp_in_nI (by omega) (by decide), pk_le (lx 1 x) i (fun c2 => ?_) (fun c2 => ?_)⟩
    · have e2 : i = lx 1 x := by omega
      rw [e2]
      refine ⟨zb_bool _, ?_⟩
      have : zx_free pg u (lx 1 x) = zt_all (lx 1 x) (fun i => pg (19 + (u + i)) == 7) := by unfold zx_free; rw [decide_eq_true c]; rfl
      rw [← this]; exact h
    · refine zb_br (fun hb => ?_) (fun hb => ?_)
      · rw [hb]
        refine ⟨Or.inl rfl, ?_⟩
        have hf : zx_free pg u (lx 1 x) = false := by
          cases hb2 : zx_free pg u (lx 1 x) with
          | false => rfl
          | true =>
            unfold zx_free at hb2
            rw [Bool.and_eq_true] at hb2
            have h9 := zt_all_iff.mp hb2.2
            have h10 : zt_all i (fun i => pg (19 + (u + i)) == 7) = true := zt_all_iff.mpr (fun j hj => h9 j (by omega))
            rw [h10] at hb; contradiction
        rw [hf] at h; exact h
      · have e1 := pM.2.2.2.2 (u + i) (by omega)
        rw [Nat.zero_add] at e1
        have h8 := hp.2.2.2.2.1 (u + i) (by omega)
        rw [show (19 : Int32) + nI u = nI (19 + u) from nI_add 19 u, nI_add, zn_cl (by omega), show 19 + u + i = 19 + (u + i) by omega, e1]
        refine ⟨vp_in_nI (by omega) (by decide), fun q => ?_, fun q => ?_⟩
        · rintro v rfl
          have : ¬ (pg (19 + (u + i)) = 7) := fun z => q (by rw [z]; rfl)
          refine ⟨⟨i + 1, by omega, nI_1 i, ?_⟩, zz_down (n := 3) (by omega) (by decide)⟩
          have e3 : (pg (19 + (u + i)) == 7) = false := by simp [this]
          simp only [zt_all, e3, Bool.and_false]; rfl
        · rintro v rfl
          have : pg (19 + (u + i)) = 7 := zn_j (by omega) (by decide) q
          refine ⟨⟨i + 1, by omega, nI_1 i, ?_⟩, zz_down (n := 3) (by omega) (by decide)⟩
          have e3 : (pg (19 + (u + i)) == 7) = true := by simp [this]
          simp only [zt_all, e3, hb]; rfl
theorem zx_free_lt {lx : Nat → Nat → Nat} {pg : Nat → Nat} {u x : Nat} (hl : zx_lexOK lx) (hx : x < 7) (h : zx_free pg u (lx 1 x) = true) : u < pg 0 := by
  unfold zx_free at h
  rw [Bool.and_eq_true, decide_eq_true_eq] at h
  have := zx_wd_bd hl hx
  omega
theorem zs_canLie {k u x : Nat} {I : zz_I} {L : zz_L} {lx : Nat → Nat → Nat} {pg : Nat → Nat} {P : Int32 → Prop} (hl : zx_lexOK lx) (hp : zx_pgOK lx pg) (lM : zx_lexM 5 2 I lx) (pM : zx_pgM k 0 I lx pg) (hu : u < 2 ^ 20) (hx : x < 7) (h : P (zb_i (zx_can lx pg u x))) : zp_X8_canLie k (nI u) (nI x) P I L := by
  have hu24 := hp.1
  have e0 : I k (0 : Int32).toNatClampNeg = nI (pg 0) := pM.1
  unfold zp_X8_canLie
  rw [e0]
  refine ⟨pk_in 0 43 (by decide), pk_le (pg 0) u (fun c => ?_) (fun c => ?_)⟩
  · have : zx_can lx pg u x = false := by unfold zx_can; rw [decide_eq_false (by omega)]; rfl
    rw [this] at h; exact h
  · have e1 := pM.2.2.2.2 u c
    rw [Nat.zero_add] at e1
    have h8 := hp.2.2.2.2.1 u c
    rw [show (19 : Int32) + nI u = nI (19 + u) from nI_add 19 u, zn_cl (by omega), e1]
    refine ⟨vp_in_nI (by omega) (by decide), pk_eq (pg (19 + u)) x (fun q => ?_) (fun q => ?_)⟩
    · have : zx_can lx pg u x = true := by unfold zx_can; rw [decide_eq_true c]; simp [q]
      rw [this] at h; exact h
    · refine zs_isInGaps hl hp lM pM hu hx ?_
      have : zx_can lx pg u x = zx_free pg u (lx 1 x) := by unfold zx_can; rw [decide_eq_true c]; simp [q]
      rw [this] at h
      exact zb_br (fun hb => by rw [hb] at h; exact h) (fun hb => by rw [hb] at h; exact h)
theorem zs_wordLies {k w u : Nat} {I : zz_I} {L : zz_L} {lx : Nat → Nat → Nat} {pg : Nat → Nat} {P : Int32 → Prop} (hl : zx_lexOK lx) (hp : zx_pgOK lx pg) (lM : zx_lexM 5 2 I lx) (pM : zx_pgM k 0 I lx pg) (hw : w < lx 0 0) (hu : u < 2 ^ 19) (h : P (zb_i (zx_lies lx pg w u))) : zp_X8_wordLies k (nI w) (nI u) P I L := by
  have h8 := hl.1
  obtain ⟨s2, s5, -, -, hlt⟩ := hl.2.2.2 w hw
  obtain ⟨m1, -, -, m4⟩ := lM.2.2 w hw
  refine ⟨fun a b c => ∃ j, j ≤ lx 2 w ∧ c = nI j ∧ b = nI (u + zx_off lx w j) ∧ a = zb_i (zt_all j (fun j => zx_can lx pg (u + zx_off lx w j) (lx 3 (5 * w + j)))), fun _ _ c => 5 - c.toNatClampNeg, ⟨0, by omega, rfl, rfl, rfl⟩, ?_⟩
  rintro a b c ⟨j, hj, rfl, rfl, rfl⟩
  unfold zp_X8_wordLies_9b
  rw [zn_cl (by omega), show I 3 w = nI (lx 2 w) from m1]
  have ho := zx_off_le hl hw hj
  refine ⟨vp_in_nI (by omega) (by decide), pk_le (lx 2 w) j (fun c => ?_) (fun c => ?_)⟩
  · have : j = lx 2 w := by omega
    subst this
    exact ⟨zb_bool _, h⟩
  · refine zb_br (fun hb => ?_) (fun hb => ?_)
    · rw [hb]
      refine ⟨Or.inl rfl, ?_⟩
      have hf : zx_lies lx pg w u = false := by
        cases hb2 : zx_lies lx pg w u with
        | false => rfl
        | true =>
          have h9 := zt_all_iff.mp hb2
          have h10 : zt_all j (fun j => zx_can lx pg (u + zx_off lx w j) (lx 3 (5 * w + j))) = true := zt_all_iff.mpr (fun i hi => h9 i (by omega))
          rw [h10] at hb; contradiction
      rw [hf] at h; exact h
    · have hx := hlt j c
      rw [zx_5', zn_cl (by omega), show I 4 (5 * w + j) = nI (lx 3 (5 * w + j)) from m4 j c]
      refine ⟨vp_in_nI (by omega) (by decide), ?_⟩
      rintro v36 rfl
      refine zs_canLie hl hp lM pM (by omega) (by omega) ?_
      rw [zn_cl (by omega), lM.2.1 _ (by omega)]
      refine ⟨vp_in_nI (by omega) (by decide), ?_⟩
      rintro v59 rfl v61 rfl
      refine ⟨⟨j + 1, by omega, nI_1 j, ?_, ?_⟩, zz_down (n := 5) (by omega) (by decide)⟩
      · rw [nI_add, Nat.add_assoc]; rfl
      · simp only [zt_all, hb, Bool.true_and]
theorem zs_holdsWord {t w u : Nat} {I : zz_I} {L : zz_L} {lx : Nat → Nat → Nat} {pg : Nat → Nat} {P : Int32 → Prop} (hl : zx_lexOK lx) (hp : zx_pgOK lx pg) (lC : zx_lexC 14 I lx) (pC : zx_pgC t I lx pg) (hw : w < lx 0 0) (hu : u < 2 ^ 19) (h : P (zb_i (zx_lies lx pg w u))) : zp_X6_holdsWord t (nI w) (nI u) P I L := by
  have h8 := hl.1
  have hu24 := hp.1
  obtain ⟨s2, s5, -, -, hlt⟩ := hl.2.2.2 w hw
  obtain ⟨m1, -, -, -, m4⟩ := lC.2.2 w hw
  unfold zp_X6_holdsWord
  refine zs_X2_hasWord (n := lx 0 0) (by omega) lC.1 (fun c => (zn_out (by omega) c hw rfl).elim) (fun _ _ _ => ⟨fun _ => ?_, fun q => absurd q (by decide)⟩)
  refine ⟨fun b c => ∃ j, j ≤ lx 2 w ∧ c = nI j ∧ b = nI (u + zx_off lx w j) ∧ zt_all j (fun j => zx_can lx pg (u + zx_off lx w j) (lx 3 (5 * w + j))) = true, fun _ c => 5 - c.toNatClampNeg, ⟨0, by omega, rfl, rfl, rfl⟩, ?_⟩
  rintro b c ⟨j, hj, rfl, rfl, ha⟩
  unfold zp_X6_holdsWord_16b
  have ho := zx_off_le hl hw hj
  rw [zn_cl (by omega), show I 17 w = nI (lx 2 w) from m1]
  refine ⟨vp_in_nI (by omega) (by decide), pk_le (lx 2 w) j (fun c => ?_) (fun c => ?_)⟩
  · have : j = lx 2 w := by omega
    subst this
    have : zx_lies lx pg w u = true := ha
    rw [this] at h; exact h
  · have hx := hlt j c
    have hwd := zx_wd_bd hl (x := lx 3 (5 * w + j)) (by omega)
    refine zs_letterOf hl lC hw c ?_
    refine zs_widthOf (lx := lx) lC.2.1 (by omega) ?_
    obtain ⟨x, ex⟩ : ∃ x, x = lx 3 (5 * w + j) := ⟨_, rfl⟩
    obtain ⟨v, ev⟩ : ∃ v, v = u + zx_off lx w j := ⟨_, rfl⟩
    rw [← ex] at hwd hx ⊢
    rw [← ev]
    have go90 : zx_can lx pg v x = true → zp_X6_holdsWord_90 (fun z4 z5 => (∃ j, j ≤ lx 2 w ∧ z5 = nI j ∧ z4 = nI (u + zx_off lx w j) ∧ zt_all j (fun j => zx_can lx pg (u + zx_off lx w j) (lx 3 (5 * w + j))) = true) ∧ (fun (_ : Int32) (c : Int32) => 5 - c.toNatClampNeg) z4 z5 < (fun (_ : Int32) (c : Int32) => 5 - c.toNatClampNeg) (nI v) (nI j)) P t (nI w) (nI v) (nI j) (nI (lx 1 x)) I L := by
      intro hc
      rintro v95 rfl v97 rfl
      refine ⟨⟨j + 1, by omega, nI_1 j, ?_, ?_⟩, zz_down (n := 5) (by omega) (by decide)⟩
      · rw [nI_add, ev, ex, Nat.add_assoc]; rfl
      · simp only [zt_all, ha, Bool.true_and]; rw [← ex, ← ev]; exact hc
    have bad : zx_can lx pg v x = false → P 0 := by
      intro hc
      have hf : zx_lies lx pg w u = false := by
        cases hb2 : zx_lies lx pg w u with
        | false => rfl
        | true =>
          have h9 := zt_all_iff.mp hb2 j c
          rw [← ex, ← ev, hc] at h9; contradiction
      rw [hf] at h; exact h
    have go70 : ¬ (v < pg 0 ∧ pg (19 + v) = x) → zp_X6_holdsWord_70 (fun z4 z5 => (∃ j, j ≤ lx 2 w ∧ z5 = nI j ∧ z4 = nI (u + zx_off lx w j) ∧ zt_all j (fun j => zx_can lx pg (u + zx_off lx w j) (lx 3 (5 * w + j))) = true) ∧ (fun (_ : Int32) (c : Int32) => 5 - c.toNatClampNeg) z4 z5 < (fun (_ : Int32) (c : Int32) => 5 - c.toNatClampNeg) (nI v) (nI j)) P t (nI w) (nI v) (nI j) (nI (lx 1 x)) 0 I L := by
      intro hno
      refine ⟨fun q => absurd rfl q, fun _ => ?_⟩
      refine zs_isFree hp pC (by omega) hwd.2 ?_
      have e1 : zx_can lx pg v x = zx_free pg v (lx 1 x) := by
        unfold zx_can
        by_cases h1 : v < pg 0
        · have h2 : ¬ (pg (19 + v) = x) := fun q => hno ⟨h1, q⟩
          simp [h1, h2]
        · have : zx_free pg v (lx 1 x) = false := by
            cases hb : zx_free pg v (lx 1 x) with
            | false => rfl
            | true => exact absurd (zx_free_lt hl (by omega) hb) h1
          simp [h1, this]
      exact zb_rb (fun hb => go90 (by rw [e1]; exact hb)) (fun hb => bad (by rw [e1]; exact hb))
    refine zs_X6_hasUnit (n := pg 0) (by omega) pC.1 (fun cc => ⟨fun _ => go70 (fun q => zn_out (by omega) cc q.1 rfl), fun q => absurd rfl q⟩) (fun j2 hj2 e2 => ⟨fun q => absurd q (by decide), fun _ => ?_⟩)
    have ej : v = j2 := zn_j (by omega) (by omega) e2
    rw [← ej] at hj2
    have h8' := hp.2.2.2.2.1 v hj2
    rw [zn_cl (by omega), pC.2.2.2.2 v hj2]
    refine ⟨vp_in_nI (by omega) (by decide), fun q => go70 (fun z => q (by rw [z.2])), fun q => ?_⟩
    have hs : pg (19 + v) = x := zn_j (by omega) (by omega) q
    refine ⟨fun _ => go90 ?_, fun z => absurd z (by decide)⟩
    unfold zx_can; simp [hj2, hs]
