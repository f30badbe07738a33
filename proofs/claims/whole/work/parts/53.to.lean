def zk_TO (nw : Nat) (sp : Nat → Nat) (op fo : Nat → Nat → Bool) (u a : Nat) : Nat :=
  if a = 8 then (if u = 0 then 1 else 0) else if a < nw ∧ sp a + 1 ≤ u then (if op (u - (sp a + 1)) a then zk_H nw sp op fo (u - (sp a + 1)) a else 0) else 0
/-- as far as the reference has come: unit i, row kk -/
def zk_TP (nw : Nat) (sp : Nat → Nat) (op fo g : Nat → Nat → Bool) (i kk v a : Nat) : Nat :=
  if a = 8 then (if v = 0 then 1 else 0) else if a < nw ∧ sp a + 1 ≤ v then (if op (v - (sp a + 1)) a then (if v - (sp a + 1) < i then zk_H nw sp op fo (v - (sp a + 1)) a else if v - (sp a + 1) = i then zt_sum 9 (fun b => if decide (b * nw + a < kk) && g b a then zk_TO nw sp op fo i b else 0) else 0) else 0) else 0
section
variable {un nw : Nat} {sp : Nat → Nat} {op fo g : Nat → Nat → Bool}
theorem zk_TO_no {u a : Nat} (h : ¬ a = 8) (h2 : ¬ (a < nw ∧ sp a + 1 ≤ u)) : zk_TO nw sp op fo u a = 0 := by
  unfold zk_TO; rw [if_neg h, if_neg h2]
theorem zk_TO_yes {u a : Nat} (h : ¬ a = 8) (h2 : a < nw ∧ sp a + 1 ≤ u) : zk_TO nw sp op fo u a = if op (u - (sp a + 1)) a then zk_H nw sp op fo (u - (sp a + 1)) a else 0 := by
  unfold zk_TO; rw [if_neg h, if_pos h2]
theorem zk_TP_yes {i kk v a : Nat} (h : ¬ a = 8) (h2 : a < nw ∧ sp a + 1 ≤ v) (h3 : op (v - (sp a + 1)) a = true) : zk_TP nw sp op fo g i kk v a = if v - (sp a + 1) < i then zk_H nw sp op fo (v - (sp a + 1)) a else if v - (sp a + 1) = i then zt_sum 9 (fun b => if decide (b * nw + a < kk) && g b a then zk_TO nw sp op fo i b else 0) else 0 := by
  unfold zk_TP; rw [if_neg h, if_pos h2, h3, if_pos rfl]
theorem zk_TO_H (h8 : nw ≤ 8) (hg8 : ∀ w, g 8 w = true) (hg : ∀ a w, a < nw → g a w = fo a w) {u w : Nat} : zt_sum 9 (fun a => if g a w then zk_TO nw sp op fo u a else 0) = zk_H nw sp op fo u w := by
  have e9 : zt_sum 9 (fun a => if g a w then zk_TO nw sp op fo u a else 0) = zt_sum 8 (fun a => if g a w then zk_TO nw sp op fo u a else 0) + (if g 8 w then zk_TO nw sp op fo u 8 else 0) := rfl
  rw [e9, hg8, if_pos rfl]
  have e8 : zk_TO nw sp op fo u 8 = if u = 0 then 1 else 0 := if_pos rfl
  rw [e8, zt_sum_tail (j := nw) h8]
  · by_cases h0 : u = 0
    · subst h0
      rw [if_pos rfl, zk_H_0, zt_sum_zero]
      intro a ha
      rw [zk_TO_no (by omega) (by omega)]; simp
    · rw [if_neg h0, Nat.add_zero, zk_H_on h0]
      refine zt_sum_congr (fun a ha => ?_)
      rw [hg a w ha]
      by_cases q : sp a + 1 ≤ u
      · rw [zk_TO_yes (by omega) ⟨ha, q⟩, if_pos q]
        cases fo a w <;> cases op (u - (sp a + 1)) a <;> rfl
      · rw [zk_TO_no (by omega) (fun z => q z.2), if_neg q]; simp
  · intro a h1 h2
    rw [zk_TO_no (by omega) (by omega)]; simp
theorem zk_TO_bd (h8 : nw ≤ 8) (hsp : ∀ w, w < nw → 2 ≤ sp w) {u a : Nat} (hu : u ≤ 24) : zk_TO nw sp op fo u a ≤ 8 ^ 8 := by
  unfold zk_TO
  split
  · split <;> simp
  · split
    · split
      · exact Nat.le_trans (zk_H_bd h8 hsp _ _ _ (Nat.le_refl _)) (Nat.pow_le_pow_right (by decide) (by omega))
      · exact Nat.zero_le _
    · exact Nat.zero_le _
/-- the units below i, and i itself, are done -/
theorem zk_TP_TO {i kk v a : Nat} (hsp : ∀ w, w < nw → 2 ≤ sp w) (hv : v ≤ i) : zk_TP nw sp op fo g i kk v a = zk_TO nw sp op fo v a := by
  unfold zk_TP zk_TO
  by_cases e : a = 8
  · rw [if_pos e, if_pos e]
  · rw [if_neg e, if_neg e]
    by_cases q : a < nw ∧ sp a + 1 ≤ v
    · have := hsp a q.1
      rw [if_pos q, if_pos q, if_pos (show v - (sp a + 1) < i by omega)]
    · rw [if_neg q, if_neg q]
theorem zk_TP_next {i v a : Nat} (h8 : nw ≤ 8) (hg8 : ∀ w, g 8 w = true) (hg : ∀ a w, a < nw → g a w = fo a w) : zk_TP nw sp op fo g i (9 * nw) v a = zk_TP nw sp op fo g (i + 1) 0 v a := by
  unfold zk_TP
  by_cases e : a = 8
  · rw [if_pos e, if_pos e]
  · rw [if_neg e, if_neg e]
    by_cases q : a < nw ∧ sp a + 1 ≤ v
    · rw [if_pos q, if_pos q]
      cases op (v - (sp a + 1)) a
      · rfl
      · simp only [if_true]
        by_cases e1 : v - (sp a + 1) < i
        · rw [if_pos e1, if_pos (by omega)]
        · rw [if_neg e1]
          by_cases e2 : v - (sp a + 1) = i
          · rw [if_pos e2, if_pos (by omega), e2, ← zk_TO_H h8 hg8 hg]
            refine zt_sum_congr (fun b hb => ?_)
            have : b * nw + a < 9 * nw := by
              have h1 : b * nw ≤ 8 * nw := Nat.mul_le_mul_right _ (by omega)
              omega
            rw [decide_eq_true this, Bool.true_and]
          · rw [if_neg e2, if_neg (by omega)]
            by_cases e3 : v - (sp a + 1) = i + 1
            · rw [if_pos e3, zt_sum_zero]
              intro b _
              simp
            · rw [if_neg e3]
    · rw [if_neg q, if_neg q]
theorem zt_dm {b n a kk : Nat} (ha : a < n) (h : b * n + a = kk) : kk / n = b ∧ kk % n = a := by
  subst h
  refine ⟨?_, ?_⟩
  · rw [Nat.mul_comm, Nat.mul_add_div (by omega), Nat.div_eq_of_lt ha, Nat.add_zero]
  · rw [Nat.mul_comm, Nat.mul_add_mod, Nat.mod_eq_of_lt ha]
theorem zk_TP_same {i kk v a : Nat} (h : ¬ (a = kk % nw ∧ v = i + sp a + 1 ∧ a < nw ∧ op i a = true ∧ g (kk / nw) a = true ∧ 0 < zk_TO nw sp op fo i (kk / nw))) : zk_TP nw sp op fo g i kk v a = zk_TP nw sp op fo g i (kk + 1) v a := by
  unfold zk_TP
  by_cases e : a = 8
  · rw [if_pos e, if_pos e]
  · rw [if_neg e, if_neg e]
    by_cases q : a < nw ∧ sp a + 1 ≤ v
    · rw [if_pos q, if_pos q]
      cases r : op (v - (sp a + 1)) a
      · rfl
      · simp only [if_true]
        by_cases e1 : v - (sp a + 1) < i
        · rw [if_pos e1, if_pos e1]
        · rw [if_neg e1, if_neg e1]
          by_cases e2 : v - (sp a + 1) = i
          · rw [if_pos e2, if_pos e2]
            refine zt_sum_congr (fun b hb => ?_)
            by_cases e3 : b * nw + a = kk
            · obtain ⟨d1, d2⟩ := zt_dm q.1 e3
              rw [decide_eq_false (show ¬ b * nw + a < kk by omega), decide_eq_true (show b * nw + a < kk + 1 by omega), Bool.true_and, Bool.false_and]
              cases s : g b a
              · rfl
              · have : zk_TO nw sp op fo i b = 0 := by
                  refine Nat.eq_zero_of_not_pos (fun hp => h ?_)
                  rw [d1, d2]
                  rw [e2] at r
                  exact ⟨rfl, by omega, q.1, r, s, hp⟩
                rw [this]; rfl
            · rw [show decide (b * nw + a < kk + 1) = decide (b * nw + a < kk) from decide_eq_decide.mpr (by omega)]
          · rw [if_neg e2, if_neg e2]
    · rw [if_neg q, if_neg q]
theorem zk_TP_step {i kk : Nat} (hn : 0 < nw) (h8 : nw ≤ 8) (hk : kk < 9 * nw) (ho : op i (kk % nw) = true) (hg : g (kk / nw) (kk % nw) = true) : zk_TP nw sp op fo g i (kk + 1) (i + sp (kk % nw) + 1) (kk % nw) = zk_TP nw sp op fo g i kk (i + sp (kk % nw) + 1) (kk % nw) + zk_TO nw sp op fo i (kk / nw) := by
  have hw : kk % nw < nw := Nat.mod_lt _ hn
  have hb : kk / nw < 9 := (Nat.div_lt_iff_lt_mul hn).mpr hk
  have hd : kk / nw * nw + kk % nw = kk := by rw [Nat.mul_comm]; exact Nat.div_add_mod kk nw
  have e : i + sp (kk % nw) + 1 - (sp (kk % nw) + 1) = i := by omega
  rw [zk_TP_yes (by omega) ⟨hw, by omega⟩ (by rw [e]; exact ho), zk_TP_yes (by omega) ⟨hw, by omega⟩ (by rw [e]; exact ho), e]
  simp only [if_true, Nat.lt_irrefl, if_false]
  refine zt_sum_bump hb (fun b hb2 hne => ?_) ?_
  · have : b * nw + kk % nw ≠ kk := fun z => hne (zt_dm hw z).1.symm
    rw [show decide (b * nw + kk % nw < kk + 1) = decide (b * nw + kk % nw < kk) from decide_eq_decide.mpr (by omega)]
  · rw [hd, hg]; simp
end
theorem zs_layTo {k : Nat} {I : zz_I} {L : zz_L} {lx : Nat → Nat → Nat} {pg : Nat → Nat} {P : zz_I → zz_L → Prop} (hl : zx_lexOK lx) (hp : zx_pgOK lx pg) (lM : zx_lexM 5 2 I lx) (pM : zx_pgM k 0 I lx pg) (hk : ∀ j, j < 8 → ∃ c : Nat, c < 3 ∧ I 5 j = nI c) (h : ∀ M : zz_L, (∀ k j, k ≠ 24 → M k j = L k j) → (∀ u a, u ≤ pg 0 → a ≤ 8 → M 24 (9 * u + a) = lN (zk_TO (lx 0 0) (zx_sp lx) (zx_fit lx pg) (zx_fo lx pg) u a)) → P I M) : zp_X8_layTo k P I L := by
  have h8 := hl.1
  have h24 := hp.1
  have e0 : I k (0 : Int32).toNatClampNeg = nI (pg 0) := pM.1
  have e5 : I 0 5 = nI (lx 0 0) := lM.1
  have hsp2 : ∀ w, w < lx 0 0 → 2 ≤ zx_sp lx w := fun w hw => (zx_sp_bd hl hw).1
  have hg8 : ∀ w, zx_g I k lx pg 8 w = true := fun w => zx_g8
  have hgw : ∀ a w, a < lx 0 0 → zx_g I k lx pg a w = zx_fo lx pg a w := fun a w ha => zx_gw h8 ha
  refine ⟨fun y J M => ∃ i, i ≤ 225 ∧ y = nI i ∧ I = J ∧ (∀ k j, k ≠ 24 → M k j = L k j) ∧ ∀ j, j < i → M 24 j = 0, fun y _ _ => 225 - y.toNatClampNeg, ⟨0, by omega, rfl, rfl, fun _ _ _ => rfl, fun j hj => absurd hj (by omega)⟩, ?_⟩
  rintro y J M ⟨i, hi, rfl, rfl, hf, hb⟩
  unfold zp_X8_layTo_2b
  refine pk_le 225 i (fun c => ⟨pk_in 8 225 (by decide), ?_⟩) (fun c => ?_)
  · rintro M1 e1
    have f1 : ∀ k j, k ≠ 24 → M1 k j = L k j := fun k j hk => by rw [e1, zu_k hk]; exact hf k j hk
    have b1 : ∀ v a, v ≤ pg 0 → a ≤ 8 → M1 24 (9 * v + a) = lN (zk_TP (lx 0 0) (zx_sp lx) (zx_fit lx pg) (zx_fo lx pg) (zx_g I k lx pg) 0 0 v a) := by
      intro v a hv ha
      have z : ¬ a = 8 → zk_TP (lx 0 0) (zx_sp lx) (zx_fit lx pg) (zx_fo lx pg) (zx_g I k lx pg) 0 0 v a = 0 := by
        intro e
        unfold zk_TP
        rw [if_neg e]
        split
        · split
          · rw [if_neg (by omega)]
            split
            · rw [zt_sum_zero]
              intro b _; simp
            · rfl
          · rfl
        · rfl
      rw [e1, show (8 : Int32).toNatClampNeg = 8 by decide]
      by_cases e : 9 * v + a = 8
      · have hv0 : v = 0 := by omega
        have ha8 : a = 8 := by omega
        subst hv0 ha8
        rw [show 9 * 0 + 8 = 8 by omega, zu_e]; rfl
      · rw [zu_i e, hb _ (by omega)]
        by_cases e2 : a = 8
        · unfold zk_TP
          rw [if_pos e2, if_neg (by omega)]; rfl
        · rw [z e2]; rfl
    clear e1 hb hf
    refine ⟨fun y J M => ∃ i, i ≤ pg 0 ∧ y = nI i ∧ I = J ∧ (∀ k j, k ≠ 24 → M k j = L k j) ∧ ∀ v a, v ≤ pg 0 → a ≤ 8 → M 24 (9 * v + a) = lN (zk_TP (lx 0 0) (zx_sp lx) (zx_fit lx pg) (zx_fo lx pg) (zx_g I k lx pg) i 0 v a), fun y _ _ => 25 - y.toNatClampNeg, ⟨0, by omega, rfl, rfl, f1, b1⟩, ?_⟩
    clear f1 b1
    rintro y J M ⟨i, hi, rfl, rfl, hf, hb⟩
    unfold zp_X8_layTo_32b
    rw [e0]
    refine ⟨pk_in 0 43 (by decide), ?_⟩
    refine pk_le (pg 0) i (fun c => h M hf (fun u a hu ha => ?_)) (fun c => ?_)
    · rw [hb u a hu ha, zk_TP_TO hsp2 (by omega)]
    · refine ⟨fun y J M => ∃ kk, kk ≤ 9 * lx 0 0 ∧ y = nI kk ∧ I = J ∧ (∀ k j, k ≠ 24 → M k j = L k j) ∧ ∀ v a, v ≤ pg 0 → a ≤ 8 → M 24 (9 * v + a) = lN (zk_TP (lx 0 0) (zx_sp lx) (zx_fit lx pg) (zx_fo lx pg) (zx_g I k lx pg) i kk v a), fun y _ _ => 72 - y.toNatClampNeg, ⟨0, by omega, rfl, rfl, hf, hb⟩, ?_⟩
      clear hf hb
      rintro y J M ⟨kk, hkk, rfl, rfl, hf, hb⟩
      unfold zp_X8_layTo_41b
      rw [e5, e0, show (9 : Int32) * nI (lx 0 0) = nI (9 * lx 0 0) from pk_mul 9 _]
      refine pk_le (9 * lx 0 0) kk (fun c2 => ?_) (fun c2 => ?_)
      · rintro _ rfl
        refine ⟨⟨i + 1, by omega, nI_1 i, rfl, hf, fun v a hv ha => ?_⟩, zz_down (n := 25) (by omega) (by omega)⟩
        have : kk = 9 * lx 0 0 := by omega
        rw [hb v a hv ha, this, zk_TP_next h8 hg8 hgw]
      · have hn0 : 0 < lx 0 0 := by omega
        have hne : ¬ nI (lx 0 0) = 0 := nI_ne0 hn0 (by omega)
        refine ⟨hne, ?_⟩
        rw [pk_div (by omega) hn0 (by omega)]
        rintro _ rfl
        refine ⟨hne, ?_⟩
        rw [show nI kk - nI (kk / lx 0 0) * nI (lx 0 0) = nI (kk % lx 0 0) by rw [← pk_div (by omega) hn0 (by omega)]; exact pk_rem (by omega) hn0 (by omega)]
        rintro _ rfl
        have hw : kk % lx 0 0 < lx 0 0 := Nat.mod_lt _ hn0
        have ha : kk / lx 0 0 < 9 := (Nat.div_lt_iff_lt_mul hn0).mpr c2
        have hsp := zx_sp_bd hl hw
        have hstep := zk_TP_step (sp := zx_sp lx) (op := zx_fit lx pg) (fo := zx_fo lx pg) (g := zx_g I k lx pg) (i := i) hn0 h8 c2
        have hsame := fun v a => zk_TP_same (nw := lx 0 0) (sp := zx_sp lx) (op := zx_fit lx pg) (fo := zx_fo lx pg) (g := zx_g I k lx pg) (i := i) (kk := kk) (v := v) (a := a)
        have hTO : M 24 (9 * i + kk / lx 0 0) = lN (zk_TO (lx 0 0) (zx_sp lx) (zx_fit lx pg) (zx_fo lx pg) i (kk / lx 0 0)) := by
          rw [hb i _ (by omega) (by omega), zk_TP_TO hsp2 (Nat.le_refl _)]
        have hbd := zk_TO_bd (op := zx_fit lx pg) (fo := zx_fo lx pg) h8 hsp2 (u := i) (a := kk / lx 0 0) (by omega)
        generalize kk % lx 0 0 = w at *
        generalize kk / lx 0 0 = a at *
        generalize hT : zk_TO (lx 0 0) (zx_sp lx) (zx_fit lx pg) (zx_fo lx pg) i a = T at *
        refine zs_unitsOf hl lM hw ?_
        rw [nI_add]
        rintro _ rfl
        rw [zx_9, zn_cl (n := 9 * i + a) (by omega), hTO]
        refine ⟨vp_in_nI (by omega) (by decide), ?_⟩
        have stay : ¬ (i + zx_sp lx w + 1 ≤ pg 0 ∧ zx_fit lx pg i w = true ∧ zx_g I k lx pg a w = true ∧ 0 < T) → ∀ v146 : Int32, v146 = nI kk + 1 → (∃ k2, k2 ≤ 9 * lx 0 0 ∧ v146 = nI k2 ∧ I = I ∧ (∀ k j, k ≠ 24 → M k j = L k j) ∧ ∀ v a, v ≤ pg 0 → a ≤ 8 → M 24 (9 * v + a) = lN (zk_TP (lx 0 0) (zx_sp lx) (zx_fit lx pg) (zx_fo lx pg) (zx_g I k lx pg) i k2 v a)) ∧ 72 - v146.toNatClampNeg < 72 - (nI kk).toNatClampNeg := by
          rintro q _ rfl
          refine ⟨⟨kk + 1, by omega, nI_1 kk, rfl, hf, fun v b hv hb2 => ?_⟩, zz_down (n := 72) (by omega) (by omega)⟩
          rw [hb v b hv hb2, hsame v b]
          rintro ⟨r1, r2, r3, r4, r5, r6⟩
          subst r1
          exact q ⟨by omega, r4, r5, r6⟩
        refine ⟨fun c3 => stay (fun z => ?_), fun c3 => ⟨pk_in 0 43 (by decide), ?_⟩⟩
        · have := (pk_lLE (a := T) (b := 0) (by omega) (by omega)).mp c3
          omega
        · refine pk_le (pg 0) (i + zx_sp lx w) (fun c4 => stay (fun z => by omega)) (fun c4 => ?_)
          refine zs_fits hl hp lM pM hk hw (by omega) (by omega) (zb_br (fun q => stay (fun z => ?_)) (fun q => ?_))
          · rw [z.2.1, z.2.2.1] at q; cases q
          · rw [Bool.and_eq_true] at q
            rw [show nI (i + zx_sp lx w) + (1 : Int32) = nI (i + zx_sp lx w + 1) from nI_1 _, zx_9, zn_cl (n := 9 * (i + zx_sp lx w + 1) + w) (by omega), hb _ w (by omega) (by omega), lN_add]
            refine ⟨vp_in_nI (by omega) (by decide), vp_in_nI (by omega) (by decide), vp_in_nI (by omega) (by decide), ?_⟩
            rintro _ rfl _ rfl
            refine ⟨⟨kk + 1, by omega, nI_1 kk, rfl, fun k j hk => (zu_k hk).trans (hf k j hk), fun v b hv hb2 => ?_⟩, zz_down (n := 72) (by omega) (by omega)⟩
            by_cases e : v = i + zx_sp lx w + 1 ∧ b = w
            · obtain ⟨rfl, rfl⟩ := e
              rw [zu_e, hstep q.1 q.2]
            · rw [zu_i (by omega), hb v b hv hb2, hsame v b]
              rintro ⟨r1, r2, -⟩
              subst r1
              exact e ⟨r2, rfl⟩
  · refine ⟨vp_in_nI (by omega) (by decide), ?_⟩
    rw [zn_cl (n := i) (by omega)]
    rintro _ rfl _ rfl
    refine ⟨⟨i + 1, by omega, nI_1 i, rfl, fun k j hk => (zu_k hk).trans (hf k j hk), fun j hj => ?_⟩, zz_down (n := 225) (by omega) (by omega)⟩
    by_cases e : j = i
    · subst e; rw [zu_e]
    · rw [zu_i e]; exact hb j (by omega)
