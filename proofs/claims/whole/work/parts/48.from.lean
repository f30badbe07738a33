/-- what the reference holds that a word may follow another, or the start (8) -/
def zx_g (I : zz_I) (k : Nat) (lx : Nat → Nat → Nat) (pg : Nat → Nat) (a w : Nat) : Bool :=
  if a = 8 then true else if a < lx 0 0 then zx_fo lx pg a w else (decide (I k (((2 : Int32) + ((3 : Int32) * (I 5 a))) + (I 5 w)).toNatClampNeg = 1) || (decide (I k (((2 : Int32) + ((3 : Int32) * (I 5 a))) + (I 5 w)).toNatClampNeg = 2) && decide (I 6 a = I 6 w)))
theorem zx_g8 {I : zz_I} {k : Nat} {lx : Nat → Nat → Nat} {pg : Nat → Nat} {w : Nat} : zx_g I k lx pg 8 w = true := if_pos rfl
theorem zx_gw {I : zz_I} {k : Nat} {lx : Nat → Nat → Nat} {pg : Nat → Nat} {a w : Nat} (h8 : lx 0 0 ≤ 8) (h : a < lx 0 0) : zx_g I k lx pg a w = zx_fo lx pg a w := by
  unfold zx_g; rw [if_neg (by omega), if_pos h]
theorem zs_mayFollow {k w a : Nat} {I : zz_I} {L : zz_L} {lx : Nat → Nat → Nat} {pg : Nat → Nat} {P : Int32 → Prop} (hl : zx_lexOK lx) (hp : zx_pgOK lx pg) (lM : zx_lexM 5 2 I lx) (pM : zx_pgM k 0 I lx pg) (hk : ∀ j, j < 8 → ∃ c : Nat, c < 3 ∧ I 5 j = nI c) (hw : w < lx 0 0) (ha : a ≤ 8) (h : P (zb_i (zx_g I k lx pg a w))) : zp_X8_mayFollow k (nI w) (nI a) P I L := by
  have h8 := hl.1
  unfold zp_X8_mayFollow
  rw [zn_cl (n := w) (by omega), zn_cl (n := a) (by omega)]
  refine ⟨fun q => ?_, fun q => ?_⟩
  · have a8 : a ≠ 8 := fun z => q (by rw [z]; rfl)
    obtain ⟨ca, hca, eca⟩ := hk a (by omega)
    obtain ⟨cw, hcw, ecw⟩ := hk w (by omega)
    have hix : ((2 : Int32) + ((3 : Int32) * (I 5 a))) + (I 5 w) = nI (2 + (3 * ca + cw)) := by
      rw [eca, ecw, show (3 : Int32) * nI ca = nI (3 * ca) from pk_mul 3 ca, show (2 : Int32) + nI (3 * ca) = nI (2 + 3 * ca) from nI_add 2 _, nI_add, Nat.add_assoc]
    refine ⟨vp_in_nI (by omega) (by decide), vp_in_nI (by omega) (by decide), ?_⟩
    by_cases haw : a < lx 0 0
    · obtain ⟨-, ka, ea, -⟩ := lM.2.2 a haw
      obtain ⟨-, kw, ew, -⟩ := lM.2.2 w hw
      have ka : I 5 a = nI (lx 4 a) := ka
      have kw : I 5 w = nI (lx 4 w) := kw
      have ea : I 6 a = nI (lx 5 a) := ea
      have ew : I 6 w = nI (lx 5 w) := ew
      obtain ⟨-, -, ba, ca5, -⟩ := hl.2.2.2 a haw
      obtain ⟨-, -, bw, cw5, -⟩ := hl.2.2.2 w hw
      have z1 : ca = lx 4 a := zn_j (by omega) (by omega) (eca.symm.trans ka)
      have z2 : cw = lx 4 w := zn_j (by omega) (by omega) (ecw.symm.trans kw)
      subst z1 z2
      have hr : I k (2 + (3 * lx 4 a + lx 4 w)) = nI (pg (2 + (3 * lx 4 a + lx 4 w))) := by
        have := pM.2.2.1 (3 * lx 4 a + lx 4 w) (by omega)
        rw [Nat.zero_add] at this; exact this
      have hr2 := hp.2.2.1 (3 * lx 4 a + lx 4 w) (by omega)
      rw [zx_gw h8 haw] at h
      rw [hix, zn_cl (by omega), hr]
      refine ⟨vp_in_nI (by omega) (by decide), ?_⟩
      rintro _ rfl
      unfold zx_fo at h
      refine pk_eq (pg (2 + (3 * lx 4 a + lx 4 w))) 1 (fun c1 => ?_) (fun c1 => ⟨fun c2 => ?_, fun c2 => ⟨vp_in_nI (by omega) (by decide), vp_in_nI (by omega) (by decide), fun c3 => ?_, fun c3 => ?_⟩⟩)
      · rw [c1] at h; exact h
      · have : pg (2 + (3 * lx 4 a + lx 4 w)) ≠ 2 := fun z => c2 (by rw [z]; rfl)
        simp only [beq_eq_false_iff_ne.mpr c1, beq_eq_false_iff_ne.mpr this, Bool.false_and, Bool.or_false] at h; exact h
      · have : lx 5 a ≠ lx 5 w := fun z => c3 (by rw [ea, ew, z])
        simp only [beq_eq_false_iff_ne.mpr c1, beq_eq_false_iff_ne.mpr this, Bool.and_false, Bool.or_false] at h; exact h
      · rw [ea, ew] at c3
        have z3 : lx 5 a = lx 5 w := zn_j (by omega) (by omega) c3
        have z4 : pg (2 + (3 * lx 4 a + lx 4 w)) = 2 := zn_j (j := 2) (by omega) (by decide) c2
        rw [z3, z4] at h
        simp only [beq_self_eq_true, Bool.and_true, Bool.or_true] at h; exact h
    · refine ⟨by rw [hix]; exact vp_in_nI (by omega) (by decide), ?_⟩
      rintro _ rfl
      unfold zx_g at h
      rw [if_neg a8, if_neg haw] at h
      refine ⟨fun c1 => ?_, fun c1 => ⟨fun c2 => ?_, fun c2 => ⟨vp_in_nI (by omega) (by decide), vp_in_nI (by omega) (by decide), fun c3 => ?_, fun c3 => ?_⟩⟩⟩
      · rw [decide_eq_true c1, Bool.true_or] at h; exact h
      · rw [decide_eq_false c1, decide_eq_false c2] at h; exact h
      · rw [decide_eq_false c1, decide_eq_false c3, Bool.and_false] at h; exact h
      · rw [decide_eq_true c2, decide_eq_true c3, Bool.and_true, Bool.or_true] at h; exact h
  · have : a = 8 := zn_j (j := 8) (by omega) (by decide) q
    subst this
    rw [zx_g8] at h; exact h
theorem zs_fits {k w u a : Nat} {I : zz_I} {L : zz_L} {lx : Nat → Nat → Nat} {pg : Nat → Nat} {P : Int32 → Prop} (hl : zx_lexOK lx) (hp : zx_pgOK lx pg) (lM : zx_lexM 5 2 I lx) (pM : zx_pgM k 0 I lx pg) (hk : ∀ j, j < 8 → ∃ c : Nat, c < 3 ∧ I 5 j = nI c) (hw : w < lx 0 0) (hu : u < 2 ^ 18) (ha : a ≤ 8) (h : P (zb_i (zx_fit lx pg u w && zx_g I k lx pg a w))) : zp_X8_fits k (nI w) (nI u) (nI a) P I L := by
  have h8 := hl.1
  have hsp := zx_sp_bd hl hw
  have h24 := hp.1
  unfold zp_X8_fits
  have e1 : I k (1 : Int32).toNatClampNeg = nI (pg 1) := pM.2.1
  have e0 : I k (0 : Int32).toNatClampNeg = nI (pg 0) := pM.1
  rw [e1, e0]
  refine ⟨pk_in 1 43 (by decide), ?_⟩
  have hb1 := hp.2.1
  unfold zp_X8_has
  rw [zx_bit (by omega) (by omega), zy_div]
  cases q : (pg 1).testBit w
  · refine ⟨fun _ => ⟨fun z => absurd rfl z, fun _ => ?_⟩, fun z => absurd z (by decide)⟩
    refine zs_mayFollow hl hp lM pM hk hw ha ?_
    refine zb_br (fun r => ?_) (fun r => ?_)
    · rw [r, Bool.and_false] at h; exact h
    · rw [r, Bool.and_true] at h
      refine zs_wordLies hl hp lM pM hw (by omega) (zb_rb (fun r2 => ?_) (fun r2 => ?_))
      · refine zs_unitsOf hl lM hw ?_
        rw [nI_add]
        rintro _ rfl
        refine ⟨pk_in 0 43 (by decide), ?_⟩
        unfold zx_fit at h
        rw [q, r2] at h
        refine pk_eq (u + zx_sp lx w) (pg 0) (fun c => ?_) (fun c => ?_)
        · rw [decide_eq_true c] at h; exact h
        · rw [decide_eq_false c] at h
          refine zs_canLie (x := 6) hl hp lM pM (by omega) (by omega) (zb_br (fun r3 => ?_) (fun r3 => ?_))
          · rw [r3] at h; exact h
          · rw [r3] at h; exact h
      · unfold zx_fit at h
        rw [r2, Bool.and_false, Bool.false_and] at h; exact h
  · refine ⟨fun z => absurd rfl z, fun _ => ⟨fun _ => ?_, fun z => absurd z (by decide)⟩⟩
    unfold zx_fit at h
    rw [q] at h; exact h
/-- readings from a unit behind a word -/
def zk_F (un nw : Nat) (sp : Nat → Nat) (op fo g : Nat → Nat → Bool) (u a : Nat) : Nat := zt_sum nw (fun w => if op u w && g a w then zk_N un nw sp op fo u w else 0)
theorem zx_9 {u a : Nat} : (9 : Int32) * nI u + nI a = nI (9 * u + a) := by rw [show (9 : Int32) * nI u = nI (9 * u) from pk_mul 9 u, nI_add]
theorem zs_layFrom {k : Nat} {I : zz_I} {L : zz_L} {lx : Nat → Nat → Nat} {pg : Nat → Nat} {P : zz_I → zz_L → Prop} (hl : zx_lexOK lx) (hp : zx_pgOK lx pg) (lM : zx_lexM 5 2 I lx) (pM : zx_pgM k 0 I lx pg) (hk : ∀ j, j < 8 → ∃ c : Nat, c < 3 ∧ I 5 j = nI c) (h : ∀ M : zz_L, (∀ k j, k ≠ 23 → M k j = L k j) → (∀ u a, u ≤ pg 0 → a ≤ 8 → M 23 (9 * u + a) = lN (zk_F (pg 0) (lx 0 0) (zx_sp lx) (zx_fit lx pg) (zx_fo lx pg) (zx_g I k lx pg) u a)) → P I M) : zp_X8_layFrom k P I L := by
  have h8 := hl.1
  have h24 := hp.1
  have e0 : I k (0 : Int32).toNatClampNeg = nI (pg 0) := pM.1
  have e5 : I 0 5 = nI (lx 0 0) := lM.1
  unfold zp_X8_layFrom
  rw [e0]
  refine ⟨pk_in 0 43 (by decide), ?_⟩
  rintro _ rfl
  rw [show nI (pg 0) = nI (pg 0 + 1) - 1 from (nI_pred _).symm]
  obtain ⟨F, eF⟩ : ∃ F, F = zk_F (pg 0) (lx 0 0) (zx_sp lx) (zx_fit lx pg) (zx_fo lx pg) (zx_g I k lx pg) := ⟨_, rfl⟩
  rw [← eF] at h
  refine ⟨fun y J M => ∃ i : Nat, i ≤ pg 0 + 1 ∧ y = nI i - 1 ∧ I = J ∧ (∀ k j, k ≠ 23 → M k j = L k j) ∧ (∀ u a, i ≤ u → u ≤ pg 0 → a ≤ 8 → M 23 (9 * u + a) = lN (F u a)), fun y _ _ => (y + 1).toNatClampNeg, ⟨pg 0 + 1, by omega, rfl, rfl, fun _ _ _ => rfl, fun u a q1 q2 => by omega⟩, ?_⟩
  rintro y J M ⟨i, hi, rfl, rfl, hf, hb⟩
  unfold zp_X8_layFrom_4b
  cases i with
  | zero => exact ⟨fun _ => h M hf (fun u a => hb u a (by omega)), fun c => absurd zz_neg0 c⟩
  | succ n =>
    rw [nI_pred n]
    refine ⟨fun c => absurd c (nI_pos (by omega)), fun _ => ?_⟩
    refine ⟨fun y J M => ∃ j : Nat, j ≤ 9 ∧ y = nI j ∧ I = J ∧ (∀ k j, k ≠ 23 → M k j = L k j) ∧ (∀ u a, (n + 1 ≤ u ∨ (u = n ∧ a < j)) → u ≤ pg 0 → a ≤ 8 → M 23 (9 * u + a) = lN (F u a)), fun y _ _ => 9 - y.toNatClampNeg, ⟨0, by omega, rfl, rfl, hf, fun u a q => hb u a (by omega)⟩, ?_⟩
    clear hb hf
    rintro y J M ⟨a, ha, rfl, rfl, hf, hb⟩
    unfold zp_X8_layFrom_10b
    refine pk_lt 8 a (fun c => ?_) (fun c => ?_)
    · rintro _ rfl
      exact ⟨⟨n, by omega, zz_m1 _, rfl, hf, fun u a2 q1 q2 q3 => hb u a2 (by omega) q2 q3⟩, zz_dec (by omega)⟩
    · refine ⟨fun y4 y6 => ∃ j : Nat, j ≤ lx 0 0 ∧ y6 = nI j ∧ y4 = lN (zt_sum j (fun w => if zx_fit lx pg n w && zx_g I k lx pg a w then zk_N (pg 0) (lx 0 0) (zx_sp lx) (zx_fit lx pg) (zx_fo lx pg) n w else 0)), fun _ y6 => 8 - y6.toNatClampNeg, ⟨0, by omega, rfl, rfl⟩, ?_⟩
      rintro y4 y6 ⟨j, hj, rfl, rfl⟩
      unfold zp_X8_layFrom_22b
      rw [e5, e0]
      have out : zt_sum j (fun w => if zx_fit lx pg n w && zx_g I k lx pg a w then zk_N (pg 0) (lx 0 0) (zx_sp lx) (zx_fit lx pg) (zx_fo lx pg) n w else 0) = F n a → ∀ x4, x4 = lN (zt_sum j (fun w => if zx_fit lx pg n w && zx_g I k lx pg a w then zk_N (pg 0) (lx 0 0) (zx_sp lx) (zx_fit lx pg) (zx_fo lx pg) n w else 0)) → vp_in (((9 : Int32) * nI n) + nI a) 225 ∧ (∀ L110 : zz_L, L110 = zz_up M 23 (((9 : Int32) * nI n) + nI a).toNatClampNeg x4 → (∀ v111 : Int32, v111 = nI a + (1 : Int32) → ((∃ j : Nat, j ≤ 9 ∧ v111 = nI j ∧ I = I ∧ (∀ k j, k ≠ 23 → L110 k j = L k j) ∧ (∀ u a, (n + 1 ≤ u ∨ (u = n ∧ a < j)) → u ≤ pg 0 → a ≤ 8 → L110 23 (9 * u + a) = lN (F u a))) ∧ 9 - v111.toNatClampNeg < 9 - (nI a).toNatClampNeg))) := by
        rintro q _ rfl
        rw [zx_9, zn_cl (n := 9 * n + a) (by omega), q]
        refine ⟨vp_in_nI (by omega) (by decide), ?_⟩
        rintro _ rfl _ rfl
        refine ⟨⟨a + 1, by omega, nI_1 a, rfl, fun k j hk => (zu_k hk).trans (hf k j hk), fun u a2 q1 q2 q3 => ?_⟩, zz_down (n := 9) (by omega) (by omega)⟩
        by_cases e : u = n ∧ a2 = a
        · obtain ⟨rfl, rfl⟩ := e
          rw [zu_e]
        · rw [zu_i (by omega)]; exact hb u a2 (by omega) q2 q3
      refine pk_le (lx 0 0) j (fun c1 => out ?_ _ rfl) (fun c1 => ⟨pk_in 0 43 (by decide), ?_⟩)
      · have : j = lx 0 0 := by omega
        subst this; rw [eF]; rfl
      · refine pk_le (pg 0) n (fun c2 => out ?_ _ rfl) (fun c2 => ?_)
        · rw [eF]
          unfold zk_F
          have z : ∀ w, (if zx_fit lx pg n w && zx_g I k lx pg a w then zk_N (pg 0) (lx 0 0) (zx_sp lx) (zx_fit lx pg) (zx_fo lx pg) n w else 0) = 0 := fun w => by
            rw [zk_N_no c2]; simp
          rw [zt_sum_zero (fun w _ => z w), zt_sum_zero (fun w _ => z w)]
        · have hsp := zx_sp_bd hl c1
          refine zs_fits hl hp lM pM hk c1 (by omega) (by omega) (zb_br (fun q => ?_) (fun q => ?_))
          · rintro _ rfl
            refine ⟨⟨j + 1, by omega, nI_1 j, ?_⟩, zz_down (n := 8) (by omega) (by omega)⟩
            simp only [zt_sum]; rw [q]; rfl
          · refine zs_unitsOf hl lM c1 ?_
            rw [nI_add]
            rintro _ rfl
            refine ⟨pk_in 0 43 (by decide), ?_⟩
            have q' := q
            rw [Bool.and_eq_true] at q'
            have hle := zx_fit_le hl hp c1 q'.1
            refine ⟨fun c3 => ?_, fun c3 => ?_⟩
            · have c4 : n + zx_sp lx j ≠ pg 0 := fun z => c3 (by rw [z])
              rw [show nI (n + zx_sp lx j) + (1 : Int32) = nI (n + zx_sp lx j + 1) from nI_1 _, zx_9, zn_cl (n := 9 * (n + zx_sp lx j + 1) + j) (by omega), hb (n + zx_sp lx j + 1) j (Or.inl (by omega)) (by omega) (by omega), lN_add]
              refine ⟨vp_in_nI (by omega) (by decide), ?_⟩
              rintro _ rfl _ rfl
              refine ⟨⟨j + 1, by omega, nI_1 j, ?_⟩, zz_down (n := 8) (by omega) (by omega)⟩
              simp only [zt_sum]; rw [q, if_pos rfl, zk_N_on c2 c4, eF]
              unfold zk_F
              congr 2
              refine zt_sum_congr (fun v hv => ?_)
              rw [zx_gw h8 c1]
            · have c4 : n + zx_sp lx j = pg 0 := zn_j (by omega) (by omega) c3
              rw [show (1 : Int64) = lN 1 from rfl, lN_add]
              rintro _ rfl _ rfl
              refine ⟨⟨j + 1, by omega, nI_1 j, ?_⟩, zz_down (n := 8) (by omega) (by omega)⟩
              simp only [zt_sum]; rw [q, if_pos rfl, zk_N_end c2 c4]
theorem zk_F_A {un nw : Nat} {sp : Nat → Nat} {op fo g : Nat → Nat → Bool} (hg : ∀ w, g 8 w = true) : zk_F un nw sp op fo g 0 8 = zk_A un nw sp op fo := by
  unfold zk_F zk_A
  refine zt_sum_congr (fun w _ => ?_)
  rw [hg, Bool.and_true]
theorem zs_all {k : Nat} {I : zz_I} {L : zz_L} {lx : Nat → Nat → Nat} {pg : Nat → Nat} {P : Int64 → zz_I → zz_L → Prop} (hl : zx_lexOK lx) (hp : zx_pgOK lx pg) (lM : zx_lexM 5 2 I lx) (pM : zx_pgM k 0 I lx pg) (hk : ∀ j, j < 8 → ∃ c : Nat, c < 3 ∧ I 5 j = nI c) (h : ∀ M : zz_L, (∀ k j, k ≠ 23 → M k j = L k j) → P (lN (zk_A (pg 0) (lx 0 0) (zx_sp lx) (zx_fit lx pg) (zx_fo lx pg))) I M) : zp_X8_all k P I L := by
  refine zs_layFrom hl hp lM pM hk (fun M hf hb => ⟨pk_in 8 225 (by decide), ?_⟩)
  have := hb 0 8 (by omega) (by omega)
  rw [zk_F_A (fun w => zx_g8)] at this
  have e : M 23 (8 : Int32).toNatClampNeg = lN (zk_A (pg 0) (lx 0 0) (zx_sp lx) (zx_fit lx pg) (zx_fo lx pg)) := this
  rw [e]
  exact h M hf
