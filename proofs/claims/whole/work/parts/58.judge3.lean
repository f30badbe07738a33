theorem zx_lexC_fr2 {I J : zz_I} {lx : Nat → Nat → Nat} (h : ∀ k j, k < 25 → J k j = I k j) (lC : zx_lexC 14 I lx) : zx_lexC 14 J lx := by
  have c : ∀ k, k < 25 → J k = I k := fun k hk => funext fun j => h k j hk
  unfold zx_lexC; rw [c 14 (by omega), c (14 + 1) (by omega), c (14 + 2) (by omega), c (14 + 3) (by omega), c (14 + 4) (by omega), c (14 + 5) (by omega), c (14 + 6) (by omega)]; exact lC
/-- the statement of five digits at place i of n -/
def zx_sd (row n i : Nat) : Nat := row / 100000 ^ (n - 1 - i) % 100000
def zx_tp (lx : Nat → Nat → Nat) (pg : Nat → Nat) (row n : Nat) : Nat → Nat → Nat
  | 0 => pg
  | i + 1 => zx_nx lx (zx_tp lx pg row n i) (zx_sd row n i / 10000) (zx_sd row n i / 1000 % 10) (zx_sd row n i / 100 % 10) (zx_sd row n i / 10 % 10)
def zx_oi (lx : Nat → Nat → Nat) (pg : Nat → Nat) (row n i : Nat) : Prop := zx_ok lx (zx_tp lx pg row n i) (zx_sd row n i / 10000) (zx_sd row n i / 1000 % 10) (zx_sd row n i / 100 % 10) (zx_sd row n i / 10 % 10) (zx_sd row n i % 10)
theorem zx_tp_OK {lx : Nat → Nat → Nat} {pg : Nat → Nat} {row n : Nat} (hl : zx_lexOK lx) (hp : zx_pgOK lx pg) : ∀ i, (∀ j, j < i → zx_oi lx pg row n j) → zx_pgOK lx (zx_tp lx pg row n i) := by
  intro i
  induction i with
  | zero => intro _; exact hp
  | succ i ih => intro h; exact zx_nx_OK hl (ih (fun j hj => h j (by omega))) (h i (by omega))
def zx_rs (lx : Nat → Nat → Nat) (pg : Nat → Nat) (row n : Nat) (r : Int32) : Prop := (r = -9 ∧ ∀ j, j < n → zx_oi lx pg row n j) ∨ ∃ i, i < n ∧ r = nI i ∧ (∀ j, j < i → zx_oi lx pg row n j) ∧ ¬ zx_oi lx pg row n i
theorem zx_rs_u {lx : Nat → Nat → Nat} {pg : Nat → Nat} {row n : Nat} {r r2 : Int32} (h : zx_rs lx pg row n r) (h2 : zx_rs lx pg row n r2) : r = r2 := by
  rcases h with ⟨a, b⟩ | ⟨i, a, b, c, d⟩ <;> rcases h2 with ⟨a2, b2⟩ | ⟨i2, a2, b2, c2, d2⟩
  · rw [a, a2]
  · exact absurd (b i2 a2) d2
  · exact absurd (b2 i a) d
  · rcases Nat.lt_trichotomy i i2 with q | q | q
    · exact absurd (c2 i q) d
    · rw [b, b2, q]
    · exact absurd (c i2 q) d2
theorem zs_longPower {n : Nat} {I : zz_I} {L : zz_L} {P : Int64 → Prop} (hn : n ≤ 3) (h : P (lN (100000 ^ n))) : zp_X8_longPower (100000 : Int64) (nI n) P I L := by
  refine ⟨fun y3 y5 => ∃ i, i ≤ n ∧ y5 = nI i ∧ y3 = lN (100000 ^ i), fun _ y5 => 3 - y5.toNatClampNeg, ⟨0, by omega, rfl, rfl⟩, ?_⟩
  rintro y3 y5 ⟨i, hi, rfl, rfl⟩
  unfold zp_X8_longPower_5b
  refine pk_le n i (fun c => ?_) (fun c => ?_)
  · have : i = n := by omega
    subst this; exact h
  · rintro _ rfl _ rfl
    refine ⟨⟨i + 1, by omega, nI_1 i, ?_⟩, zz_down (n := 3) (by omega) (by omega)⟩
    rw [show (100000 : Int64) = lN 100000 from rfl, lN_mul, Nat.pow_succ]
theorem zx_pw {m : Nat} (h : m ≤ 3) : 0 < 100000 ^ m ∧ 100000 ^ m < 2 ^ 62 := by
  refine ⟨Nat.pow_pos (by decide), ?_⟩
  exact Nat.lt_of_le_of_lt (Nat.pow_le_pow_right (by decide) h) (by decide)
theorem zs_lay15 {I : zz_I} {L : zz_L} {P : zz_I → zz_L → Prop} (h : ∀ J : zz_I, (∀ k j, k ≠ 15 → J k j = I k j) → (∀ j, j < 43 → J 15 j = I 14 j) → P J L) : zp_X8_lay 15 14 P I L := by
  refine ⟨fun y J M => ∃ i, i ≤ 43 ∧ y = nI i ∧ M = L ∧ (∀ k j, k ≠ 15 → J k j = I k j) ∧ (∀ j, j < i → J 15 j = I 14 j), fun y _ _ => 43 - y.toNatClampNeg, ⟨0, by omega, rfl, rfl, fun _ _ _ => rfl, fun j hj => absurd hj (by omega)⟩, ?_⟩
  rintro y J M ⟨i, hi, rfl, rfl, hf, hb⟩
  unfold zp_X8_lay_2b
  refine pk_le 43 i (fun c => h J hf (fun j hj => hb j (by omega))) (fun c => ?_)
  rw [zn_cl (n := i) (by omega)]
  refine ⟨vp_in_nI (by omega) (by decide), vp_in_nI (by omega) (by decide), ?_⟩
  rintro _ rfl _ rfl
  refine ⟨⟨i + 1, by omega, nI_1 i, rfl, fun k j hk => (zu_k hk).trans (hf k j hk), fun j hj => ?_⟩, zz_down (n := 43) (by omega) (by decide)⟩
  by_cases q : j = i
  · subst q; rw [zu_e]; exact hf 14 j (by decide)
  · rw [zu_i q]; exact hb j (by omega)
/-- the class's judge, for a row of n statements -/
theorem zs_judgeC {n row : Nat} {I : zz_I} {L : zz_L} {lx : Nat → Nat → Nat} {pg : Nat → Nat} {P : Int32 → zz_I → zz_L → Prop} (hl : zx_lexOK lx) (hp : zx_pgOK lx pg) (lC : zx_lexC 14 I lx) (pC : zx_pgC 25 I lx pg) (h1 : 1 ≤ n) (h3 : n ≤ 3) (hr : row < 100000 ^ n) (h : ∀ (r : Int32) (J : zz_I) (M : zz_L), zx_rs lx pg row n r → (∀ k j, (k < 25 ∨ (28 < k ∧ k < 37) ∨ 41 < k) → J k j = I k j) → (∀ k j, k ≠ 42 → k ≠ 43 → M k j = L k j) → P r J M) : zp_X7_judge_83 P (nI n) (lN (100000 ^ (n - 1))) (lN row) 0 I L := by
  refine ⟨fun y4 y6 y8 J M => ∃ i, i ≤ n ∧ y8 = nI i ∧ y4 = lN (if i < n then 100000 ^ (n - 1 - i) else 0) ∧ y6 = lN (row % 100000 ^ (n - i)) ∧ (∀ j, j < i → zx_oi lx pg row n j) ∧ zx_pgC 25 J lx (zx_tp lx pg row n i) ∧ (∀ k j, (k < 25 ∨ (28 < k ∧ k < 37) ∨ 41 < k) → J k j = I k j) ∧ (∀ k j, k ≠ 42 → k ≠ 43 → M k j = L k j), fun _ _ y8 _ _ => 3 - y8.toNatClampNeg, ⟨0, by omega, rfl, ?_, ?_, fun j hj => absurd hj (by omega), pC, fun _ _ _ => rfl, fun _ _ _ _ => rfl⟩, ?_⟩
  · rw [if_pos (by omega)]; rfl
  · rw [Nat.sub_zero, Nat.mod_eq_of_lt hr]
  rintro y4 y6 y8 J M ⟨i, hi, rfl, rfl, rfl, hok, hpg, hf, hfL⟩
  unfold zp_X7_judge_83b
  have hpo := zx_tp_OK hl hp i hok
  refine pk_le n i (fun c => ?_) (fun c => ?_)
  · have : n = i := by omega
    subst this
    exact h _ J M (Or.inl ⟨rfl, hok⟩) hf hfL
  · rw [if_pos c]
    obtain ⟨m, hm⟩ : ∃ m, m = n - 1 - i := ⟨_, rfl⟩
    have hni : n - i = m + 1 := by omega
    rw [← hm, hni]
    have pm := zx_pw (m := m) (by omega)
    have pm1 := zx_pw (m := m + 1) (by omega)
    have hlt := Nat.mod_lt row pm1.1
    refine ⟨fun c2 => ?_, fun _ => ⟨fun c2 => ?_, ?_⟩⟩
    · have := (pk_lLE (b := 0) (by omega) (by omega)).mp c2
      omega
    · have := (pk_lEQ (b := 0) (by omega) (by omega)).mp c2
      omega
    · have hdiv : lN (row % 100000 ^ (m + 1)) / lN (100000 ^ m) = lN (row % 100000 ^ (m + 1) / 100000 ^ m) := pk_lDiv (by omega) pm.1 (by omega)
      have hsd : row % 100000 ^ (m + 1) / 100000 ^ m = zx_sd row n i := by
        rw [Nat.pow_succ, Nat.mod_mul_right_div_self, hm]; rfl
      have hs : zx_sd row n i < 100000 := Nat.mod_lt _ (by decide)
      have hrem : lN (row % 100000 ^ (m + 1)) - lN (row % 100000 ^ (m + 1)) / lN (100000 ^ m) * lN (100000 ^ m) = lN (row % 100000 ^ (m + 1) % 100000 ^ m) := pk_lRem (by omega) pm.1 (by omega)
      rw [hrem, hdiv, hsd, lN_i]
      refine zs_accepts hl hpo (zx_lexC_fr2 (fun k j hk => hf k j (by omega)) lC) hpg hs (fun q J2 M2 f1 f2 => ⟨fun y => absurd rfl y, fun _ => ?_⟩) (fun q J2 M2 f1 f2 p2 => ⟨fun _ => ⟨fun c2 => ?_, ?_⟩, fun y => absurd y (by decide)⟩)
      · exact h _ J2 M2 (Or.inr ⟨i, c, rfl, hok, q⟩) (fun k j hk => (f1 k j hk).trans (hf k j hk)) (fun k j k1 k2 => (f2 k j k1 k2).trans (hfL k j k1 k2))
      · have := (pk_lEQ (b := 0) (by omega) (by omega)).mp c2
        omega
      · rintro _ rfl _ rfl _ rfl
        refine ⟨⟨i + 1, by omega, nI_1 i, ?_, ?_, fun j hj => ?_, p2, fun k j hk => (f1 k j hk).trans (hf k j hk), fun k j k1 k2 => (f2 k j k1 k2).trans (hfL k j k1 k2)⟩, zz_down (n := 3) (by omega) (by omega)⟩
        · rw [show (100000 : Int64) = lN 100000 from rfl, pk_lDiv (by omega) (by decide) (by decide)]
          congr 1
          by_cases e : i + 1 < n
          · rw [if_pos e]
            obtain ⟨m2, hm2⟩ : ∃ m2, m = m2 + 1 := ⟨m - 1, by omega⟩
            rw [hm2, Nat.pow_succ, Nat.mul_div_cancel _ (by decide)]
            congr 1; omega
          · rw [if_neg e]
            have : m = 0 := by omega
            subst this; rfl
        · congr 1
          rw [show n - (i + 1) = m by omega]
          exact Nat.mod_mod_of_dvd _ ⟨100000, Nat.pow_succ _ _⟩
        · by_cases e : j = i
          · subst e; exact q
          · exact hok j (by omega)
theorem zs_judgeM {n row : Nat} {I : zz_I} {L : zz_L} {lx : Nat → Nat → Nat} {pg : Nat → Nat} {P : Int32 → zz_I → zz_L → Prop} (hl : zx_lexOK lx) (hp : zx_pgOK lx pg) (lM : zx_lexM 5 2 I lx) (pM : zx_pgM 15 0 I lx pg) (hk : ∀ j, j < 8 → ∃ c : Nat, c < 3 ∧ I 5 j = nI c) (h1 : 1 ≤ n) (h3 : n ≤ 3) (hr : row < 100000 ^ n) (h : ∀ (r : Int32) (J : zz_I) (M : zz_L), zx_rs lx pg row n r → (∀ k j, k ≠ 15 → J k j = I k j) → (∀ k j, k ≠ 23 → k ≠ 24 → M k j = L k j) → P r J M) : zp_X8_judge_51 P (nI n) (lN row) 0 I L := by
  refine ⟨fun y4 J M => ∃ i, i ≤ n ∧ y4 = nI i ∧ (∀ j, j < i → zx_oi lx pg row n j) ∧ zx_pgM 15 0 J lx (zx_tp lx pg row n i) ∧ (∀ k j, k ≠ 15 → J k j = I k j) ∧ (∀ k j, k ≠ 23 → k ≠ 24 → M k j = L k j), fun y4 _ _ => 3 - y4.toNatClampNeg, ⟨0, by omega, rfl, fun j hj => absurd hj (by omega), pM, fun _ _ _ => rfl, fun _ _ _ _ => rfl⟩, ?_⟩
  rintro y4 J M ⟨i, hi, rfl, hok, hpg, hf, hfL⟩
  unfold zp_X8_judge_51b
  have hpo := zx_tp_OK hl hp i hok
  refine pk_le n i (fun c => ?_) (fun c => ?_)
  · have : n = i := by omega
    subst this
    exact h _ J M (Or.inl ⟨rfl, hok⟩) hf hfL
  · obtain ⟨m, hm⟩ : ∃ m, m = n - 1 - i := ⟨_, rfl⟩
    rw [show (nI n - (1 : Int32)) - nI i = nI m by rw [show nI n - (1 : Int32) = nI (n - 1) from pk_sub (b := 1) (by omega), pk_sub (by omega), hm]]
    have pm := zx_pw (m := m) (by omega)
    have pn := zx_pw (m := n) (by omega)
    have hq : row / 100000 ^ m < 2 ^ 62 := Nat.lt_of_le_of_lt (Nat.div_le_self _ _) (by omega)
    refine zs_longPower (by omega) ⟨fun c2 => ?_, ?_⟩
    · have := (pk_lEQ (b := 0) (by omega) (by omega)).mp c2
      omega
    · have hs : zx_sd row n i < 100000 := Nat.mod_lt _ (by decide)
      rw [pk_lDiv (by omega) pm.1 (by omega), show lN (row / 100000 ^ m) - lN (row / 100000 ^ m) / (100000 : Int64) * (100000 : Int64) = lN (row / 100000 ^ m % 100000) from pk_lRem (b := 100000) (by omega) (by decide) (by decide), lN_i, show row / 100000 ^ m % 100000 = zx_sd row n i by rw [hm]; rfl]
      have mI : ∀ k, k ≠ 15 → J k = I k := fun k hk => funext fun j => hf k j hk
      have lMJ : zx_lexM 5 2 J lx := by
        unfold zx_lexM; rw [mI 0 (by omega), mI 2 (by omega), mI (2 + 1) (by omega), mI (2 + 2) (by omega), mI (2 + 3) (by omega), mI (2 + 4) (by omega)]; exact lM
      refine zs_does hl hpo lMJ hpg (by rw [mI 5 (by omega)]; exact hk) hs (fun q J2 M2 f1 f2 => ⟨fun y => absurd rfl y, fun _ => ?_⟩) (fun q J2 M2 f1 f2 p2 => ⟨fun _ => ?_, fun y => absurd y (by decide)⟩)
      · exact h _ J2 M2 (Or.inr ⟨i, c, rfl, hok, q⟩) (fun k j hk => (f1 k j hk).trans (hf k j hk)) (fun k j k1 k2 => (f2 k j k1 k2).trans (hfL k j k1 k2))
      · rintro _ rfl
        refine ⟨⟨i + 1, by omega, nI_1 i, fun j hj => ?_, p2, fun k j hk => (f1 k j hk).trans (hf k j hk), fun k j k1 k2 => (f2 k j k1 k2).trans (hfL k j k1 k2)⟩, zz_down (n := 3) (by omega) (by omega)⟩
        by_cases e : j = i
        · subst e; exact q
        · exact hok j (by omega)
theorem zo_19_ok : zo_19 zx_R := by
  intro IC LC IM LM p0 p1 hR
  have hR0 := zx_R0 hR
  obtain ⟨lx, pg, ⟨hl, hp, lC, lM, pC, pM⟩, -, -, -, -, -, ⟨z1, z2, z3, z4, z5⟩⟩ := id hR
  have h24 := hp.1
  have h8 := hl.1
  have e1 : (1 : Int64) = (1 : Int32).toInt64 := by decide
  have e3 : (3 : Int64) = (3 : Int32).toInt64 := by decide
  have badM : ∀ r : Int32, r = -2 → (p0 < 1 ∨ 3 < p0) → zp_X8_judge p0 p1 (fun r2 IM2 LM2 => r = r2 ∧ zx_R IC LC IM2 LM2) IM LM := by
    rintro r rfl hb _ rfl
    rw [e1, e3]
    refine zs_X8_in (fun _ => ⟨fun _ => ⟨rfl, hR0⟩, fun q => absurd rfl q⟩) (fun c1 c2 => ?_)
    rcases hb with hb | hb
    · exact absurd hb c1
    · exact absurd hb c2
  unfold zp_X7_judge
  refine ⟨fun c => badM _ rfl (Or.inl c), fun c1 => ⟨fun c => badM _ rfl (Or.inr c), fun c2 => ?_⟩⟩
  obtain ⟨n, hn1, hn3, en⟩ : ∃ n, 1 ≤ n ∧ n ≤ 3 ∧ p0 = nI n := by
    rcases zn_ix p0 (n := 4) (by decide) with (hb | hb) | ⟨j, hj, e⟩
    · exact absurd (Int32.lt_of_lt_of_le hb (by decide)) c1
    · exact absurd (Int32.lt_of_lt_of_le (by decide) hb) c2
    · refine ⟨j, ?_, by omega, e⟩
      rcases Nat.eq_zero_or_pos j with q | q
      · rw [e, q] at c1; exact absurd (by decide) c1
      · exact q
  subst en
  have goodM : ∀ r : Int32, ∀ IC2 LC2, (p1 < 0 → r = -2 ∧ zx_R IC2 LC2 (zz_up IM 0 0 0) LM) → (∀ row, p1 = lN row → row < 2 ^ 63 → (¬ row < 100000 ^ n → r = -2 ∧ zx_R IC2 LC2 (zz_up IM 0 0 0) LM) ∧ (row < 100000 ^ n → zx_rs lx pg row n r ∧ ∀ J M, (∀ k j, k ≠ 15 → ¬ (k = 0 ∧ j = 0) → J k j = IM k j) → (∀ k j, k ≠ 23 → k ≠ 24 → M k j = LM k j) → zx_R IC2 LC2 J M)) → zp_X8_judge (nI n) p1 (fun r2 IM2 LM2 => r = r2 ∧ zx_R IC2 LC2 IM2 LM2) IM LM := by
    rintro r IC2 LC2 g1 g2 _ rfl
    have pn := zx_pw (m := n) (by omega)
    rw [e1, e3]
    refine zs_X8_in (fun hb => ?_) (fun _ _ => ⟨fun q => absurd q (by decide), fun _ => ?_⟩)
    · rcases hb with hb | hb
      · exact absurd hb c1
      · exact absurd hb c2
    refine zs_longPower hn3 ?_
    rw [show lN (100000 ^ n) - (1 : Int32).toInt64 = lN (100000 ^ n - 1) from lN_sub (b := 1) (by omega)]
    refine ⟨fun c => ⟨fun q => absurd rfl q, fun _ => g1 c⟩, fun c => ?_⟩
    obtain ⟨row, hrow, erow⟩ := pk_lOf c
    obtain ⟨ga, gb⟩ := g2 row erow hrow
    subst erow
    refine ⟨fun q => ⟨fun q => absurd rfl q, fun _ => ga ?_⟩, fun q => ⟨fun _ => ?_, fun q => absurd q (by decide)⟩⟩
    · have := (pk_lLT (by omega) hrow).mp q; omega
    · rw [pk_lLT (by omega) hrow] at q
      obtain ⟨gr, gm⟩ := gb (by omega)
      refine zs_lay15 (fun J jf jb => ?_)
      have mI : ∀ k, k ≠ 15 → k ≠ 0 → J k = IM k := fun k h1 h2 => funext fun j => (jf k j h1).trans (zu_k h2)
      have lMJ : zx_lexM 5 2 J lx := by
        unfold zx_lexM; rw [jf 0 5 (by omega), mI 2 (by omega) (by omega), mI (2 + 1) (by omega) (by omega), mI (2 + 2) (by omega) (by omega), mI (2 + 3) (by omega) (by omega), mI (2 + 4) (by omega) (by omega)]; exact lM
      have pMJ : zx_pgM 15 0 J lx pg := zx_pgM_of (k := 14) (o := 0) h8 (by omega) pM (fun j hj => by rw [Nat.zero_add, jb j hj]; rfl)
      refine zs_judgeM hl hp lMJ pMJ (by rw [mI 5 (by omega) (by omega)]; exact z4) hn1 hn3 (by omega) (fun r2 J2 M2 hr2 f2 fL2 => ⟨zx_rs_u gr hr2, gm J2 M2 (fun k j k1 k2 => ?_) fL2⟩)
      rw [f2 k j k1, jf k j k1, zu_k2 k2]
  refine ⟨fun c => ?_, fun c => ?_⟩
  · have c' : ¬ p1 < 0 := fun z => absurd c (Int64.not_le.mpr z)
    obtain ⟨row, hrow, erow⟩ := pk_lOf c'
    subst erow
    refine ⟨fun y4 y6 => ∃ i, 1 ≤ i ∧ i ≤ n ∧ y6 = nI i ∧ y4 = lN (100000 ^ (i - 1)), fun _ y6 => 3 - y6.toNatClampNeg, ⟨1, by omega, hn1, rfl, rfl⟩, ?_⟩
    rintro y4 y6 ⟨i, hi1, hi, rfl, rfl⟩
    unfold zp_X7_judge_25b
    refine pk_le n i (fun c3 => ?_) (fun c3 => ?_)
    · have : n = i := by omega
      subst this
      have pm := zx_pw (m := n - 1) (by omega)
      have pn := zx_pw (m := n) (by omega)
      have hpow : 100000 ^ n = 100000 * 100000 ^ (n - 1) := by
        obtain ⟨m, hm⟩ : ∃ m, n = m + 1 := ⟨n - 1, by omega⟩
        rw [hm, Nat.add_sub_cancel, Nat.pow_succ, Nat.mul_comm]
      have hq : row / 100000 ^ (n - 1) < 2 ^ 63 := Nat.lt_of_le_of_lt (Nat.div_le_self _ _) hrow
      have hiff : row / 100000 ^ (n - 1) < 100000 ↔ row < 100000 ^ n := by rw [Nat.div_lt_iff_lt_mul pm.1, hpow]
      refine ⟨fun c4 => ?_, fun _ => ⟨fun c4 => ?_, ?_⟩⟩
      · have := (pk_lLE (b := 0) (by omega) (by omega)).mp c4
        omega
      · have := (pk_lEQ (b := 0) (by omega) (by omega)).mp c4
        omega
      · rw [pk_lDiv hrow pm.1 (by omega)]
        refine ⟨fun c4 => ?_, fun c4 => ?_⟩
        · have c5 := hiff.mp ((pk_lLT (b := 100000) (by omega) (by decide)).mp c4)
          refine zs_copyC (t := 25) (s := 21) (by omega) (fun J1 f1 f1t p1 => ?_)
          refine zs_judgeC hl hp (zx_lexC_fr2 (fun k j hk => f1 k j (by omega)) lC) (p1 lx pg h8 h24 pC) hn1 hn3 c5 (fun r J2 M2 hr2 f2 fL2 => ?_)
          have fC : ∀ k j, (k < 25 ∨ (28 < k ∧ k < 37) ∨ 47 < k) → J2 k j = IC k j := fun k j hk => (f2 k j (by omega)).trans (f1 k j (by omega))
          refine goodM r J2 M2 (fun z => absurd z c') (fun row2 er2 h2 => ?_)
          have : row = row2 := (pk_lEQ hrow h2).mp er2
          subst this
          refine ⟨fun z => absurd c5 z, fun _ => ⟨hr2, fun J M fJ fM => ?_⟩⟩
          refine zx_R_q hR fC ?_ (fun k j k1 k2 k3 => fJ k j k1 (by omega)) ?_
          · rw [f2 45 0 (by omega), f1 45 0 (by omega)]; exact z3
          · rw [fL2 0 12 (by omega) (by omega), fM 0 28 (by omega) (by omega)]; exact z1
        · have c5 : ¬ row < 100000 ^ n := fun z => c4 ((pk_lLT (b := 100000) (by omega) (by decide)).mpr (hiff.mpr z))
          refine goodM _ IC LC (fun z => absurd z c') (fun row2 er2 h2 => ?_)
          have : row = row2 := (pk_lEQ hrow h2).mp er2
          subst this
          exact ⟨fun _ => ⟨rfl, hR0⟩, fun z => absurd z c5⟩
    · rintro _ rfl _ rfl
      refine ⟨⟨i + 1, by omega, by omega, nI_1 i, ?_⟩, zz_down (n := 3) (by omega) (by omega)⟩
      rw [show (100000 : Int64) = lN 100000 from rfl, lN_mul, ← Nat.pow_succ]
      congr 2; omega
  · have c' : p1 < 0 := Int64.not_le.mp c
    exact goodM _ IC LC (fun _ => ⟨rfl, hR0⟩) (fun row er hr => by
      exfalso
      rw [er] at c'
      have := (pk_lLT (b := 0) hr (by decide)).mp c'
      omega)
