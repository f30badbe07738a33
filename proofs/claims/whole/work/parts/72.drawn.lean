/-! drawn -/
def zj_nx (s : Int64) : Int64 := (s * (6364136223846793005 : Int64)) + (1442695040888963407 : Int64)
def zj_it (s : Int64) : Nat → Int64
  | 0 => s
  | n + 1 => zj_nx (zj_it s n)
def zj_r (s : Int64) (A j : Nat) : Nat := (zj_it s (j + 1)).toBitVec.toNat / 2 ^ 33 % A
theorem zj_sh (x : Int64) : (x.toUInt64 >>> ((33 : Int32).toInt64.toUInt64 &&& Int64.toUInt64 63)).toInt64 = lN (x.toBitVec.toNat / 2 ^ 33) := by
  have hc : ((33 : Int32).toInt64.toUInt64 &&& Int64.toUInt64 63) = UInt64.ofNat 33 := by decide +kernel
  rw [hc]
  have hx := x.toBitVec.isLt
  have h1 : (UInt64.ofNat 33).toNat % 64 = 33 := by decide +kernel
  have h2 : x.toUInt64.toNat = x.toBitVec.toNat := rfl
  have h3 : (UInt64.ofNat (x.toBitVec.toNat / 2 ^ 33)).toNat = x.toBitVec.toNat / 2 ^ 33 := by
    show (BitVec.ofNat 64 (x.toBitVec.toNat / 2 ^ 33)).toNat = _
    rw [BitVec.toNat_ofNat, Nat.mod_eq_of_lt (by omega)]
  have h : x.toUInt64 >>> UInt64.ofNat 33 = UInt64.ofNat (x.toBitVec.toNat / 2 ^ 33) := UInt64.toNat_inj.mp (by
    rw [UInt64.toNat_shiftRight, h1, h2, h3, Nat.shiftRight_eq_div_pow])
  exact congrArg UInt64.toInt64 h
theorem zj_k (x : Int64) : x.toBitVec.toNat / 2 ^ 33 < 2 ^ 31 := by
  have := x.toBitVec.isLt
  omega
theorem zk_en_frL {un nw : Nat} {sp wt : Nat → Nat} {op fo : Nat → Nat → Bool} {om' : Nat → Nat} {I : zz_I} {L M : zz_L} (h : ∀ j, M 45 j = L 45 j) (he : zk_en un nw sp wt op fo om' I L) : zk_en un nw sp wt op fo om' I M := by
  obtain ⟨a, b, c⟩ := he
  exact ⟨a, b, fun u w q t ht => by rw [h]; exact c u w q t ht⟩
/-- what one draw adds -/
def zj_tw (un nw : Nat) (sp wt : Nat → Nat) (op fo : Nat → Nat → Bool) (A r t : Nat) : Prop := (A = 0 ∧ t = 0) ∨ (0 < A ∧ zk_isW un nw sp wt op fo r t)
theorem zj_tw_u {un nw : Nat} {sp wt : Nat → Nat} {op fo : Nat → Nat → Bool} {A r s t : Nat} (h1 : zj_tw un nw sp wt op fo A r s) (h2 : zj_tw un nw sp wt op fo A r t) : s = t := by
  rcases h1 with ⟨a, b⟩ | ⟨a, b⟩
  · rcases h2 with ⟨c, d⟩ | ⟨c, d⟩
    · omega
    · omega
  · rcases h2 with ⟨c, d⟩ | ⟨c, d⟩
    · omega
    · exact zk_isW_u b d
theorem zj_sum {i t : Nat} {ts : Nat → Nat} : zt_sum (i + 1) (fun j => if j = i then t else ts j) = zt_sum i ts + t := by
  show zt_sum i (fun j => if j = i then t else ts j) + (if i = i then t else ts i) = _
  rw [if_pos rfl, zt_sum_congr (g := ts) (fun j hj => if_neg (by omega))]
section
variable {un nw : Nat} {sp wt : Nat → Nat} {op fo g : Nat → Nat → Bool} {om' : Nat → Nat}
theorem zs_drawC {J : zz_I} {M : zz_L} {P : Int32 → zz_I → zz_L → Prop} {m A um : Nat} (hm : m ≤ 20) (hA62 : A < 2 ^ 62) (eA : A = zk_A un nw sp op fo) (hh : 0 < A → zk_ch J un nw sp fo om' ∧ zk_op un nw sp fo op om' ∧ zk_en un nw sp wt op fo om' J M ∧ J 37 8 = nI um ∧ um < 256 ∧ ∀ w, (om' 0).testBit w = true → um.testBit w = true) (hin : ∀ u w, w < nw → op u w = true → u + sp w ≤ un) (hg : ∀ a w, a < nw → g a w = fo a w) (hg8 : ∀ w, g 8 w = true) (h : ∀ (K : zz_I) (N : zz_L) (ts : Nat → Nat), (∀ k j, k ≠ 47 → ¬ (k = 44 ∧ (j = 3 ∨ j = 4)) → K k j = J k j) → (∀ k j, ¬ (k = 0 ∧ j = 12) → N k j = M k j) → N 0 12 = zj_it (M 0 12) m → (∀ j, j < m → zj_tw un nw sp wt op fo A (zj_r (M 0 12) A j) (ts j)) → P (nI (zt_sum m ts)) K N) : zp_X7_drawnn_60 P (nI m) (lN A) (0 : Int32) (0 : Int32) J M := by
  refine ⟨fun y4 y5 K N => ∃ (i : Nat) (ts : Nat → Nat), i ≤ m ∧ y5 = nI i ∧ y4 = nI (zt_sum i ts) ∧ (∀ k j, k ≠ 47 → ¬ (k = 44 ∧ (j = 3 ∨ j = 4)) → K k j = J k j) ∧ (∀ k j, ¬ (k = 0 ∧ j = 12) → N k j = M k j) ∧ N 0 12 = zj_it (M 0 12) i ∧ (∀ j, j < i → zj_tw un nw sp wt op fo A (zj_r (M 0 12) A j) (ts j)), fun _ y5 _ _ => 21 - y5.toNatClampNeg, ⟨0, fun _ => 0, by omega, rfl, rfl, fun _ _ _ _ => rfl, fun _ _ _ => rfl, rfl, fun j hj => absurd hj (by omega)⟩, ?_⟩
  rintro y4 y5 K N ⟨i, ts, hi, rfl, rfl, kf, nf, n12, hts⟩
  unfold zp_X7_drawnn_60b
  refine pk_le m i (fun c => ?_) (fun c => ?_)
  · have : i = m := by omega
    subst this
    exact h K N ts kf nf n12 hts
  · rintro _ rfl
    obtain ⟨N2, eN2⟩ : ∃ N2, N2 = zz_up N 0 12 (((N 0 12) * (6364136223846793005 : Int64)) + (1442695040888963407 : Int64)) := ⟨_, rfl⟩
    rw [← eN2]
    have f2 : ∀ k j, ¬ (k = 0 ∧ j = 12) → N2 k j = M k j := fun k j hk => by rw [eN2, zu_k2 hk]; exact nf k j hk
    have n2 : N2 0 12 = zj_it (M 0 12) (i + 1) := by rw [eN2, zu_e, n12]; rfl
    clear eN2
    have stp : ∀ (K2 : zz_I) (t : Nat), (∀ k j, k ≠ 47 → ¬ (k = 44 ∧ (j = 3 ∨ j = 4)) → K2 k j = J k j) → zj_tw un nw sp wt op fo A (zj_r (M 0 12) A i) t → (∃ (i2 : Nat) (ts2 : Nat → Nat), i2 ≤ m ∧ nI i + (1 : Int32) = nI i2 ∧ nI (zt_sum i ts + t) = nI (zt_sum i2 ts2) ∧ (∀ k j, k ≠ 47 → ¬ (k = 44 ∧ (j = 3 ∨ j = 4)) → K2 k j = J k j) ∧ (∀ k j, ¬ (k = 0 ∧ j = 12) → N2 k j = M k j) ∧ N2 0 12 = zj_it (M 0 12) i2 ∧ (∀ j, j < i2 → zj_tw un nw sp wt op fo A (zj_r (M 0 12) A j) (ts2 j))) ∧ 21 - (nI i + (1 : Int32)).toNatClampNeg < 21 - (nI i).toNatClampNeg := by
      intro K2 t k2f htw
      refine ⟨⟨i + 1, fun j => if j = i then t else ts j, by omega, nI_1 i, by rw [zj_sum], k2f, f2, n2, fun j hj => ?_⟩, zz_down (i := i) (n := 21) (by omega) (by omega)⟩
      by_cases e : j = i
      · subst e
        show zj_tw un nw sp wt op fo A (zj_r (M 0 12) A j) (if j = j then t else ts j)
        rw [if_pos rfl]; exact htw
      · show zj_tw un nw sp wt op fo A (zj_r (M 0 12) A j) (if j = i then t else ts j)
        rw [if_neg e]; exact hts j (by omega)
    refine ⟨fun z => ?_, fun z => ?_⟩
    · have hA0 : A = 0 := by
        have := (pk_lLE (a := A) (b := 0) (by omega) (by omega)).mp z
        omega
      rintro _ rfl
      exact stp K 0 kf (Or.inl ⟨hA0, rfl⟩)
    · have hA0 : 0 < A := Nat.pos_of_ne_zero (fun q => z (by rw [q]; decide))
      obtain ⟨ch, hop, he, h378, hu, hum⟩ := hh hA0
      have chK := zk_ch_fr (J := K) (fun k j h1 h2 => kf k j (by omega) (by omega)) ch
      have heK := zk_en_frL (M := N2) (fun j => f2 45 j (by omega)) (zk_en_fr (J := K) (fun k j h1 => kf k j (by omega) (by omega)) he)
      refine ⟨fun z2 => z (by rw [z2]; decide), ?_⟩
      have hk := zj_k (zj_it (M 0 12) (i + 1))
      rw [n2, zj_sh, pk_lRem (by omega) hA0 (by omega)]
      refine zs_find (g := g) chK hop heK hin hg hg8 ((kf 37 8 (by omega) (by omega)).trans h378) hu hum (by rw [← eA]; exact Nat.mod_lt _ hA0) (Nat.lt_trans (Nat.mod_lt _ hA0) hA62) (fun K2 t q k2f hW ht1 hfin hn8 j4 j3 j7 => ?_)
      rw [j4, nI_add]
      rintro _ rfl _ rfl
      exact stp K2 t (fun k j h1 h2 => (k2f k j h1 h2).trans (kf k j h1 h2)) (Or.inr ⟨hA0, hW⟩)
end
theorem zs_drawM {I : zz_I} {L : zz_L} {lx : Nat → Nat → Nat} {pg : Nat → Nat} {n : Nat} {sw su si : Nat → Nat} {P : Int32 → zz_I → zz_L → Prop} {m A : Nat} {ts : Nat → Nat} {s : Int64} (hl : zx_lexOK lx) (hp : zx_pgOK lx pg) (mm : zx_mm I lx pg n sw su si) (hm : m ≤ 20) (hA62 : A < 2 ^ 62) (eA : A = zk_A (pg 0) (lx 0 0) (zx_sp lx) (zx_fit lx pg) (zx_fo lx pg)) (es : L 0 28 = s) (hts : ∀ j, j < m → zj_tw (pg 0) (lx 0 0) (zx_sp lx) (fun w => pg (11 + w)) (zx_fit lx pg) (zx_fo lx pg) A (zj_r s A j) (ts j)) (h : ∀ (K : zz_I) (N : zz_L), (∀ k j, k ≠ 25 → ¬ (k = 0 ∧ (j = 33 ∨ j = 34)) → K k j = I k j) → N 0 28 = zj_it s m → P (nI (zt_sum m ts)) K N) : zp_X8_drawn_35 P (nI m) (lN A) (0 : Int32) (0 : Int32) I L := by
  refine ⟨fun y4 y5 K N => ∃ i : Nat, i ≤ m ∧ y5 = nI i ∧ y4 = nI (zt_sum i ts) ∧ (∀ k j, k ≠ 25 → ¬ (k = 0 ∧ (j = 33 ∨ j = 34)) → K k j = I k j) ∧ N 0 28 = zj_it s i, fun _ y5 _ _ => 21 - y5.toNatClampNeg, ⟨0, by omega, rfl, rfl, fun _ _ _ _ => rfl, es⟩, ?_⟩
  rintro y4 y5 K N ⟨i, hi, rfl, rfl, kf, n28⟩
  unfold zp_X8_drawn_35b
  refine pk_le m i (fun c => ?_) (fun c => ?_)
  · have : i = m := by omega
    subst this
    exact h K N kf n28
  · rintro _ rfl
    obtain ⟨N2, eN2⟩ : ∃ N2, N2 = zz_up N 0 28 (((N 0 28) * (6364136223846793005 : Int64)) + (1442695040888963407 : Int64)) := ⟨_, rfl⟩
    rw [← eN2]
    have n2 : N2 0 28 = zj_it s (i + 1) := by rw [eN2, zu_e, n28]; rfl
    clear eN2
    have stp : ∀ (K2 : zz_I) (N3 : zz_L) (t : Nat), (∀ k j, k ≠ 25 → ¬ (k = 0 ∧ (j = 33 ∨ j = 34)) → K2 k j = I k j) → N3 0 28 = N2 0 28 → zj_tw (pg 0) (lx 0 0) (zx_sp lx) (fun w => pg (11 + w)) (zx_fit lx pg) (zx_fo lx pg) A (zj_r s A i) t → (∃ i2 : Nat, i2 ≤ m ∧ nI i + (1 : Int32) = nI i2 ∧ nI (zt_sum i ts + t) = nI (zt_sum i2 ts) ∧ (∀ k j, k ≠ 25 → ¬ (k = 0 ∧ (j = 33 ∨ j = 34)) → K2 k j = I k j) ∧ N3 0 28 = zj_it s i2) ∧ 21 - (nI i + (1 : Int32)).toNatClampNeg < 21 - (nI i).toNatClampNeg := by
      intro K2 N3 t k2f n3 htw
      have et := zj_tw_u htw (hts i c)
      subst et
      exact ⟨⟨i + 1, by omega, nI_1 i, rfl, k2f, n3.trans n2⟩, zz_down (i := i) (n := 21) (by omega) (by omega)⟩
    refine ⟨fun z => ?_, fun z => ?_⟩
    · have hA0 : A = 0 := by
        have := (pk_lLE (a := A) (b := 0) (by omega) (by omega)).mp z
        omega
      unfold zp_X8_drawn_92
      rw [show nI (zt_sum i ts) + (0 : Int32) = nI (zt_sum i ts + 0) from nI_add _ 0]
      rintro _ rfl _ rfl
      exact stp K N2 0 kf rfl (Or.inl ⟨hA0, rfl⟩)
    · have hA0 : 0 < A := Nat.pos_of_ne_zero (fun q => z (by rw [q]; decide))
      refine ⟨fun z2 => z (by rw [z2]; decide), ?_⟩
      have hk := zj_k (zj_it s (i + 1))
      obtain ⟨mK, gK⟩ := zx_mm_fr (J := K) (fun k j h1 h2 => kf k j h1 (by omega)) mm
      have hlt := Nat.mod_lt ((zj_it s (i + 1)).toBitVec.toNat / 2 ^ 33) hA0
      rw [n2, zj_sh, pk_lRem (by omega) hA0 (by omega)]
      refine zs_findRank hl hp mK (by omega) (fun q => absurd q (by omega)) (fun K2 N3 t q k2f n3f hW hfin hq8 k34 k33 k25 => ?_)
      refine ⟨fun q => absurd q (by decide), fun _ => ?_⟩
      rw [k34, nI_add]
      rintro _ rfl _ rfl
      exact stp K2 N3 t (fun k j h1 h2 => (k2f k j h1 h2).trans (kf k j h1 h2)) (n3f 0 28 (by omega)) (Or.inr ⟨hA0, hW⟩)
theorem zo_26_ok : zo_26 zx_R := by
  intro IC LC IM LM p0 hR
  have hR0 := zx_R0 hR
  obtain ⟨lx, pg, ⟨hl, hp, lC, lM, pC, pM⟩, -, -, -, -, ⟨n0, sw, su, si, hs⟩, hz⟩ := id hR
  have mm := zx_mm_of lM pM hz hs
  obtain ⟨z1, z2, z3, z4, z5⟩ := hz
  have h24 := hp.1
  have h8 := hl.1
  have hwt : ∀ w, w < lx 0 0 → IC 24 w = nI ((fun w => pg (11 + w)) w) ∧ 1 ≤ (fun w => pg (11 + w)) w ∧ (fun w => pg (11 + w)) w ≤ 9 := fun w hw => ⟨pC.2.2.2.1 w hw, hp.2.2.2.1 w hw⟩
  have e1 : (1 : Int64) = (1 : Int32).toInt64 := by decide
  have e20 : (20 : Int64) = (20 : Int32).toInt64 := by decide
  have out : (p0 < 1 ∨ 20 < p0) → zp_X8_drawn p0 (fun r2 IM2 LM2 => (-2 : Int32) = r2 ∧ zx_R IC LC IM2 LM2) IM LM := by
    intro c
    rintro _ rfl
    rw [e1, e20]
    exact zs_X8_in (fun _ => ⟨fun q => absurd rfl q, fun _ => ⟨rfl, hR0⟩⟩) (fun c1 c2 => (c.elim c1 c2).elim)
  refine ⟨fun c => out (Or.inl c), fun c => ⟨fun c2 => ?_, fun c2 => out (Or.inr (Int32.not_le.mp c2))⟩⟩
  obtain ⟨m, hm, rfl⟩ : ∃ m, m < 21 ∧ p0 = nI m := by
    rcases zn_ix p0 (n := 21) (by decide) with (q | q) | q
    · exact absurd (Int32.lt_trans q (by decide)) c
    · exact absurd (Int32.le_trans q c2) (by decide)
    · exact q
  have hA := zk_A_bd (op := zx_fit lx pg) (fo := zx_fo lx pg) hl hp
  have hin : ∀ u w, w < lx 0 0 → zx_fit lx pg u w = true → u + zx_sp lx w ≤ pg 0 := fun u w hw q => zx_fit_le hl hp hw q
  refine zs_countAll (by omega) hl hp lC pC (fun J M om' um hst => ?_)
  obtain ⟨A, eA⟩ : ∃ A, A = zk_A (pg 0) (lx 0 0) (zx_sp lx) (zx_fit lx pg) (zx_fo lx pg) := ⟨_, rfl⟩
  rw [← eA] at hA ⊢
  have ref : ∀ (K : zz_I) (N : zz_L) (ts : Nat → Nat), (∀ k j, (k < 37 ∨ 47 < k) → K k j = IC k j) → (K 45 0 = 0 ∨ K 45 0 = 14016) → N 0 12 = zj_it (LC 0 12) m → (∀ j, j < m → zj_tw (pg 0) (lx 0 0) (zx_sp lx) (fun w => pg (11 + w)) (zx_fit lx pg) (zx_fo lx pg) A (zj_r (LC 0 12) A j) (ts j)) → zp_X8_drawn (nI m) (fun r2 IM2 LM2 => nI (zt_sum m ts) = r2 ∧ zx_R K N IM2 LM2) IM LM := by
    intro K N ts kf k45 n12 hts
    rintro _ rfl
    rw [e1, e20]
    refine zs_X8_in (fun q => ?_) (fun _ _ => ⟨fun _ => ?_, fun q => absurd q (by decide)⟩)
    · rcases q with q | q
      · exact absurd q c
      · exact absurd c2 (Int32.not_le.mpr q)
    · refine zs_all (lx := lx) (pg := pg) hl hp mm.1 mm.2.1 mm.2.2.1 (fun M2 mf => ?_)
      rw [← eA]
      refine zs_drawM (s := LC 0 12) hl hp mm (by omega) (by omega) eA ((mf 0 28 (by omega)).trans z1.symm) hts (fun K2 N2 k2f n28 => ⟨rfl, ?_⟩)
      refine zx_R_q hR (fun k j hk => kf k j (by omega)) k45 (fun k j h1 h2 h3 => ?_) (n12.trans n28.symm)
      rw [k2f k j h2 (by omega), zu_k2 (by omega)]
  refine ⟨fun z => ?_, fun z => ?_⟩
  · have hA0 : A = 0 := by
      have := (pk_lLE (a := A) (b := 0) (by omega) (by omega)).mp z
      omega
    have e12 : M 0 12 = LC 0 12 := hst.2.1 0 12 (by omega)
    refine zs_drawC (g := zx_g (zz_up IM 0 0 0) 14 lx pg) (om' := om') (um := um) (wt := fun w => pg (11 + w)) (by omega) (by omega) eA (fun q => absurd q (by omega)) hin (fun a w ha => zx_gw h8 ha) (fun w => zx_g8) (fun K N ts kf nf n12 hts => ?_)
    rw [e12] at n12 hts
    refine ref K N ts (fun k j hk => ?_) ?_ n12 hts
    · rw [kf k j (by omega) (by omega)]; exact hst.1 k j (by omega)
    · rw [kf 45 0 (by omega) (by omega), hst.1 45 0 (by omega)]; exact z3
  · refine zs_bd hst hwt z3 (fun J2 M2 hb => ?_)
    obtain ⟨b1, b2, b3, b4, b5, b6, b7, b8⟩ := hb
    have e12 : M2 0 12 = LC 0 12 := b2 0 12 (by omega) (by omega)
    refine zs_drawC (g := zx_g (zz_up IM 0 0 0) 14 lx pg) (om' := om') (um := um) (wt := fun w => pg (11 + w)) (by omega) (by omega) eA (fun _ => ⟨b3, b4, b5, b6, b7, b8⟩) hin (fun a w ha => zx_gw h8 ha) (fun w => zx_g8) (fun K N ts kf nf n12 hts => ?_)
    rw [e12] at n12 hts
    refine ref K N ts (fun k j hk => ?_) ?_ n12 hts
    · rw [kf k j (by omega) (by omega)]; exact b1 k j (by omega)
    · rw [kf 45 0 (by omega) (by omega)]; exact Or.inr b5.1
