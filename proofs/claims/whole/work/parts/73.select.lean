/-! observations select readings: the class -/
def zx_cg (un : Nat) (sp : Nat → Nat) (a b c u w : Nat) : Bool := if c = 1 then (if u = b then decide (w = a) else if u < b then !(decide (un ≤ b) || decide (b ≤ u + sp w)) else true) else !(decide (u = b) && decide (w = a))
theorem zy_mk_clr {nw j : Nat} {f : Nat → Bool} (h8 : nw ≤ 8) : zy_mk nw f &&& (255 ^^^ 2 ^ j) = zy_mk nw (fun w => f w && !decide (w = j)) := by
  apply zy_eq
  intro v
  rw [zy_tbn (zy_mk_256 h8), zy_mk_bit, zy_mk_bit, Bool.and_assoc]
theorem zy_mk_one {nw a : Nat} {f : Nat → Bool} : zy_mk nw f &&& 2 ^ a = zy_mk nw (fun w => f w && decide (w = a)) := by
  apply zy_eq
  intro v
  rw [Nat.testBit_and, zy_mk_bit, zy_mk_bit, zy_2, Bool.and_assoc]
  have : decide (a = v) = decide (v = a) := decide_eq_decide.mpr ⟨fun h => h.symm, fun h => h.symm⟩
  rw [this]
theorem zk_ch_om {I J : zz_I} {un nw : Nat} {sp : Nat → Nat} {fo : Nat → Nat → Bool} {om om2 : Nat → Nat} (hc : zk_ch I un nw sp fo om) (hf : ∀ k j, k ≠ 38 → J k j = I k j) (h1 : ∀ u, u < 25 → J 38 u = nI (om2 u) ∧ om2 u < 256) (h2 : ∀ u w, (om2 u).testBit w = true → (om u).testBit w = true) : zk_ch J un nw sp fo om2 := by
  obtain ⟨c6, c7, h24, h8, hw, hm, hin⟩ := hc
  refine ⟨(hf 37 6 (by omega)).trans c6, (hf 37 7 (by omega)).trans c7, h24, h8, fun w hw' => ?_, h1, fun u w q => hin u w (h2 u w q)⟩
  obtain ⟨a, b, c, d⟩ := hw w hw'
  exact ⟨(hf 41 w (by omega)).trans a, b, c, (hf 40 w (by omega)).trans d⟩
section
variable {un nw : Nat} {sp : Nat → Nat} {op fo : Nat → Nat → Bool}
theorem zs_select45 {I : zz_I} {L : zz_L} {P : zz_I → zz_L → Prop} {a b : Nat} (hun : un ≤ 24) (h8 : nw ≤ 8) (hb : b < 24) (e6 : I 37 6 = nI un) (e7 : I 37 7 = nI nw) (e41 : ∀ w, w < nw → I 41 w = nI (sp w) ∧ sp w ≤ 15) (h38 : ∀ x, x < 25 → I 38 x = nI (zy_mk nw (fun w => op x w && (if x = b then decide (w = a) else true)))) (h : ∀ J : zz_I, (∀ k j, k ≠ 38 → J k j = I k j) → (∀ x, x < 25 → J 38 x = nI (zy_mk nw (fun w => op x w && zx_cg un sp a b 1 x w))) → P J L) : zp_X0_select_45 P (nI b) (0 : Int32) I L := by
  obtain ⟨G, eG⟩ : ∃ G : Nat → Nat → Nat → Bool, G = fun i x w => op x w && (if x = b then decide (w = a) else if x < i then zx_cg un sp a b 1 x w else true) := ⟨_, rfl⟩
  have hG : ∀ i x w, G i x w = (op x w && (if x = b then decide (w = a) else if x < i then zx_cg un sp a b 1 x w else true)) := fun i x w => by rw [eG]
  clear eG
  refine ⟨fun y J N => ∃ i : Nat, i ≤ b ∧ y = nI i ∧ L = N ∧ (∀ k j, k ≠ 38 → J k j = I k j) ∧ (∀ x, x < 25 → J 38 x = nI (zy_mk nw (G i x))), fun y _ _ => 24 - y.toNatClampNeg, ⟨0, by omega, rfl, rfl, fun _ _ _ => rfl, fun x hx => ?_⟩, ?_⟩
  · rw [h38 x hx]
    congr 1
    refine zy_mk_congr (fun w _ => ?_)
    rw [hG]
    by_cases e : x = b
    · rw [if_pos e, if_pos e]
    · rw [if_neg e, if_neg e, if_neg (by omega)]
  rintro y J N ⟨i, hi, rfl, rfl, hf, hm⟩
  unfold zp_X0_select_45b
  refine pk_le b i (fun c => ?_) (fun c => ?_)
  · have : i = b := by omega
    subst this
    refine h J hf (fun x hx => ?_)
    rw [hm x hx]
    congr 1
    refine zy_mk_congr (fun w _ => ?_)
    rw [hG]
    unfold zx_cg
    rw [if_pos rfl]
    by_cases e : x = i
    · rw [if_pos e, if_pos e]
    · rw [if_neg e, if_neg e]
      by_cases e2 : x < i
      · rw [if_pos e2, if_pos e2]
      · rw [if_neg e2, if_neg e2]
  · obtain ⟨F, eF⟩ : ∃ F : Nat → Nat → Bool, F = fun j w => op i w && (if w < j then zx_cg un sp a b 1 i w else true) := ⟨_, rfl⟩
    have hF : ∀ j w, F j w = (op i w && (if w < j then zx_cg un sp a b 1 i w else true)) := fun j w => by rw [eF]
    clear eF
    refine ⟨fun y J N => ∃ j : Nat, j ≤ nw ∧ y = nI j ∧ L = N ∧ (∀ k j, k ≠ 38 → J k j = I k j) ∧ (∀ x, x < 25 → x ≠ i → J 38 x = nI (zy_mk nw (G i x))) ∧ J 38 i = nI (zy_mk nw (F j)), fun y _ _ => 8 - y.toNatClampNeg, ⟨0, by omega, rfl, rfl, hf, fun x hx _ => hm x hx, ?_⟩, ?_⟩
    · rw [hm i (by omega)]
      congr 1
      refine zy_mk_congr (fun w _ => ?_)
      rw [hG, hF, if_neg (by omega), if_neg (by omega), if_neg (by omega)]
    clear hm hf
    rintro y J N ⟨j, hj, rfl, rfl, hf, hm, hi38⟩
    unfold zp_X0_select_54b
    have f6 := (hf 37 6 (by omega)).trans e6
    have f7 := (hf 37 7 (by omega)).trans e7
    refine pk_le nw j (fun c1 => ?_) (fun c1 => ?_) (hx := f7)
    · have : j = nw := by omega
      subst this
      rintro _ rfl
      refine ⟨⟨i + 1, by omega, nI_1 i, rfl, hf, fun x hx => ?_⟩, zz_down (i := i) (n := 24) (by omega) (by omega)⟩
      by_cases e : x = i
      · subst e
        rw [hi38]
        congr 1
        refine zy_mk_congr (fun w hw => ?_)
        rw [hG, hF, if_pos hw, if_neg (by omega), if_pos (by omega)]
      · rw [hm x hx e]
        congr 1
        refine zy_mk_congr (fun w _ => ?_)
        rw [hG, hG]
        by_cases e1 : x = b
        · rw [if_pos e1, if_pos e1]
        · rw [if_neg e1, if_neg e1]
          by_cases e2 : x < i
          · rw [if_pos e2, if_pos (by omega)]
          · rw [if_neg e2, if_neg (by omega)]
    · have keep : (op i j = true → zx_cg un sp a b 1 i j = true) → (∃ j2 : Nat, j2 ≤ nw ∧ nI j + (1 : Int32) = nI j2 ∧ L = L ∧ (∀ k j, k ≠ 38 → J k j = I k j) ∧ (∀ x, x < 25 → x ≠ i → J 38 x = nI (zy_mk nw (G i x))) ∧ J 38 i = nI (zy_mk nw (F j2))) ∧ 8 - (nI j + (1 : Int32)).toNatClampNeg < 8 - (nI j).toNatClampNeg := by
        intro q
        refine ⟨⟨j + 1, by omega, nI_1 j, rfl, hf, hm, ?_⟩, zz_down (i := j) (n := 8) (by omega) (by omega)⟩
        rw [hi38]
        congr 1
        refine zy_mk_congr (fun w _ => ?_)
        rw [hF, hF]
        by_cases e : w = j
        · subst e
          rw [if_neg (by omega), if_pos (by omega)]
          cases q2 : op i w
          · rfl
          · rw [q q2]
        · by_cases e2 : w < j
          · rw [if_pos e2, if_pos (by omega)]
          · rw [if_neg e2, if_neg (by omega)]
      have clr : zx_cg un sp a b 1 i j = false → zp_X0_select_94 (fun z4 I7 L7 => (∃ i : Nat, i ≤ b ∧ z4 = nI i ∧ L = L7 ∧ (∀ k j, k ≠ 38 → I7 k j = I k j) ∧ (∀ x, x < 25 → I7 38 x = nI (zy_mk nw (G i x)))) ∧ 24 - z4.toNatClampNeg < 24 - (nI i).toNatClampNeg) (fun z5 I7 L7 => (∃ j : Nat, j ≤ nw ∧ z5 = nI j ∧ L = L7 ∧ (∀ k j, k ≠ 38 → I7 k j = I k j) ∧ (∀ x, x < 25 → x ≠ i → I7 38 x = nI (zy_mk nw (G i x))) ∧ I7 38 i = nI (zy_mk nw (F j))) ∧ 8 - z5.toNatClampNeg < 8 - (nI j).toNatClampNeg) P (nI b) (nI i) (nI j) J L := by
        intro q
        refine ⟨vp_in_nI (by omega) (by decide), vp_in_nI (by omega) (by decide), ?_⟩
        rw [zn_cl (n := i) (by omega), hi38, zy_andn (zy_mk_256 h8) (by omega), zy_mk_clr h8]
        rintro _ rfl _ rfl
        refine ⟨⟨j + 1, by omega, nI_1 j, rfl, fun k j2 hk => ?_, fun x hx hne => ?_, ?_⟩, zz_down (i := j) (n := 8) (by omega) (by omega)⟩
        · rw [zu_k hk]; exact hf k j2 hk
        · rw [zu_i hne]; exact hm x hx hne
        · rw [zu_e]
          congr 1
          refine zy_mk_congr (fun w _ => ?_)
          rw [hF, hF]
          by_cases e : w = j
          · subst e
            rw [if_neg (by omega), if_pos (by omega), q]; simp
          · rw [decide_eq_false e, Bool.not_false, Bool.and_true]
            by_cases e2 : w < j
            · rw [if_pos e2, if_pos (by omega)]
            · rw [if_neg e2, if_neg (by omega)]
      have hbit : (zy_mk nw (F j)).testBit j = op i j := by
        rw [zy_mk_bit, decide_eq_true c1, Bool.true_and, hF, if_neg (by omega), Bool.and_true]
      refine zs_isOpen (om := fun _ => zy_mk nw (F j)) hi38 (zy_mk_256 h8) (by omega) (by omega) ?_
      rw [hbit]
      have hcg : zx_cg un sp a b 1 i j = !(decide (un ≤ b) || decide (b ≤ i + sp j)) := by
        unfold zx_cg
        rw [if_pos rfl, if_neg (by omega), if_pos (by omega)]
      refine zb_br (fun q => ?_) (fun q => ?_)
      · rintro _ rfl
        exact keep (fun q2 => by rw [q] at q2; cases q2)
      · refine pk_le un b (fun c2 => ?_) (fun c2 => ?_) (hx := f6)
        · exact clr (by rw [hcg, decide_eq_true c2]; rfl)
        · obtain ⟨s41, s15⟩ := e41 j c1
          refine zs_nextUnit ((hf 41 j (by omega)).trans s41) (by omega) ?_
          refine pk_le (i + sp j + 1) b (fun c3 => ?_) (fun c3 => ?_)
          · rintro _ rfl
            refine keep (fun _ => ?_)
            rw [hcg, decide_eq_false (by omega), decide_eq_false (by omega)]; rfl
          · refine clr ?_
            rw [hcg, decide_eq_false (show ¬ un ≤ b by omega), decide_eq_true (by omega)]; rfl
theorem zs_select {I : zz_I} {L : zz_L} {P : zz_I → zz_L → Prop} {a b c : Nat} (hc : zk_ch I un nw sp fo (fun u => zy_mk nw (op u))) (ha : a < 8) (hb : b < 24) (hc2 : c < 2) (h : ∀ J : zz_I, (∀ k j, k ≠ 38 → J k j = I k j) → zk_ch J un nw sp fo (fun u => zy_mk nw (fun w => op u w && zx_cg un sp a b c u w)) → P J L) : zp_X0_select (nI a) (nI b) (nI c) P I L := by
  obtain ⟨c6, c7, h24, h8, hw, hm, hin⟩ := id hc
  have fin : ∀ J : zz_I, (∀ k j, k ≠ 38 → J k j = I k j) → (∀ x, x < 25 → J 38 x = nI (zy_mk nw (fun w => op x w && zx_cg un sp a b c x w))) → P J L := by
    intro J hf h38
    refine h J hf (zk_ch_om hc hf (fun u hu => ⟨h38 u hu, zy_mk_256 h8⟩) (fun u w q => ?_))
    rw [zy_mk_bit, Bool.and_eq_true, Bool.and_eq_true] at q
    rw [zy_mk_bit, q.1, q.2.1]; rfl
  refine ⟨fun z => absurd z (nI_pos (by omega)), fun _ => ⟨fun _ => ⟨fun z => ?_, fun z => ?_⟩, fun z => absurd (nI_lt (b := 24) hb (by decide)) z⟩⟩
  · have e1 : c = 1 := by
      have : c ≠ 0 := fun q => z (by rw [q]; rfl)
      omega
    subst e1
    refine ⟨vp_in_nI (by omega) (by decide), vp_in_nI (by omega) (by decide), ?_⟩
    rw [zn_cl (n := b) (by omega), (hm b (by omega)).1, zx_two_pow ha, zy_and (zy_mk_256 h8) (zx_pow_lt ha), zy_mk_one]
    rintro _ rfl
    refine zs_select45 (un := un) (nw := nw) (sp := sp) (op := op) (a := a) h24 h8 hb ((zu_k (by omega)).trans c6) ((zu_k (by omega)).trans c7) (fun w hw' => ⟨(zu_k (by omega)).trans (hw w hw').1, (hw w hw').2.2.1⟩) (fun x hx => ?_) (fun J hf h38 => fin J (fun k j hk => ?_) h38)
    · by_cases e : x = b
      · subst e
        rw [zu_e]
        congr 1
        refine zy_mk_congr (fun w _ => ?_)
        rw [if_pos rfl]
      · rw [zu_i e, (hm x hx).1]
        congr 1
        refine zy_mk_congr (fun w _ => ?_)
        rw [if_neg e, Bool.and_true]
    · rw [hf k j hk, zu_k hk]
  · have e1 : c = 0 := zn_j (j := 0) (by omega) (by decide) z
    subst e1
    refine ⟨vp_in_nI (by omega) (by decide), vp_in_nI (by omega) (by decide), ?_⟩
    rw [zn_cl (n := b) (by omega), (hm b (by omega)).1, zy_andn (zy_mk_256 h8) ha, zy_mk_clr h8]
    rintro _ rfl
    refine fin _ (fun k j hk => zu_k hk) (fun x hx => ?_)
    have hcg : ∀ w, zx_cg un sp a b 0 x w = !(decide (x = b) && decide (w = a)) := fun w => by unfold zx_cg; rw [if_neg (by decide)]
    by_cases e : x = b
    · subst e
      rw [zu_e]
      congr 1
      refine zy_mk_congr (fun w _ => ?_)
      rw [hcg, decide_eq_true rfl, Bool.true_and]
    · rw [zu_i e, (hm x hx).1]
      congr 1
      refine zy_mk_congr (fun w _ => ?_)
      rw [hcg, decide_eq_false e]; simp
end
/-- places of the readings that the observations leave, as the class has them -/
def zx_cs (lx : Nat → Nat → Nat) (pg : Nat → Nat) (n : Nat) (sw su si : Nat → Nat) (u w : Nat) : Bool := zx_fit lx pg u w && zt_all n (fun j => zx_cg (pg 0) (zx_sp lx) (sw j) (su j) (si j) u w)
theorem zs_countSel {I : zz_I} {L : zz_L} {lx : Nat → Nat → Nat} {pg : Nat → Nat} {n : Nat} {sw su si : Nat → Nat} {P : Int64 → zz_I → zz_L → Prop} (hl : zx_lexOK lx) (hp : zx_pgOK lx pg) (lC : zx_lexC 14 I lx) (pC : zx_pgC 21 I lx pg) (hn : n ≤ 6) (e33 : I 33 3 = nI n) (hj : ∀ j, j < n → sw j < 8 ∧ su j < 24 ∧ si j < 2 ∧ I 34 j = nI (sw j) ∧ I 35 j = nI (su j) ∧ I 36 j = nI (si j)) (h : ∀ (J : zz_I) (M : zz_L) (om' : Nat → Nat) (um : Nat), zk_st I J L M (pg 0) (lx 0 0) (zx_sp lx) (zx_fo lx pg) (zx_cs lx pg n sw su si) om' um → P (lN (zk_A (pg 0) (lx 0 0) (zx_sp lx) (zx_cs lx pg n sw su si) (zx_fo lx pg))) J M) : zp_X0_countSelected 21 P I L := by
  refine zs_lay (by omega) hl hp lC pC (fun J0 f0 c0 => ?_)
  refine ⟨fun y J N => ∃ i : Nat, i ≤ n ∧ y = nI i ∧ L = N ∧ (∀ k j, (k < 37 ∨ 41 < k) → J k j = I k j) ∧ zk_ch J (pg 0) (lx 0 0) (zx_sp lx) (zx_fo lx pg) (fun u => zy_mk (lx 0 0) (zx_cs lx pg i sw su si u)), fun y _ _ => 7 - y.toNatClampNeg, ⟨0, by omega, rfl, rfl, f0, ?_⟩, ?_⟩
  · have : (fun u => zy_mk (lx 0 0) (zx_cs lx pg 0 sw su si u)) = (fun u => zy_mk (lx 0 0) (zx_fit lx pg u)) := by
      funext u
      refine zy_mk_congr (fun w _ => ?_)
      unfold zx_cs zt_all
      rw [Bool.and_true]
    rw [this]; exact c0
  rintro y J N ⟨i, hi, rfl, rfl, hf, hc⟩
  unfold zp_X0_countSelected_9b
  have last : i = n → zp_X0_countSelected_56 P 21 J L := by
    intro e
    subst e
    exact zs_countP hf hc h
  refine pk_le n i (fun c => last (by omega)) (fun c => ?_) (hx := (hf 33 3 (by omega)).trans e33)
  obtain ⟨a1, a2, a3, a4, a5, a6⟩ := hj i c
  refine ⟨fun z => absurd ((nI_leI (a := 6) (by decide) (by omega)).mp z) (by omega), fun _ => ⟨vp_in_nI (by omega) (by decide), vp_in_nI (by omega) (by decide), vp_in_nI (by omega) (by decide), ?_⟩⟩
  rw [zn_cl (n := i) (by omega), hf 34 i (by omega), hf 35 i (by omega), hf 36 i (by omega), a4, a5, a6]
  refine zs_select hc a1 a2 a3 (fun K kf kc => ?_)
  rintro _ rfl
  refine ⟨⟨i + 1, by omega, nI_1 i, rfl, fun k j hk => ?_, ?_⟩, zz_down (i := i) (n := 7) (by omega) (by omega)⟩
  · rw [kf k j (by omega)]; exact hf k j hk
  · have : (fun u => zy_mk (lx 0 0) (zx_cs lx pg (i + 1) sw su si u)) = (fun u => zy_mk (lx 0 0) (fun w => zx_cs lx pg i sw su si u w && zx_cg (pg 0) (zx_sp lx) (sw i) (su i) (si i) u w)) := by
      funext u
      refine zy_mk_congr (fun w _ => ?_)
      unfold zx_cs
      simp only [zt_all]
      rw [Bool.and_assoc]
    rw [this]; exact kc
/-- class and reference leave the same readings -/
theorem zx_cs_os {lx : Nat → Nat → Nat} {pg : Nat → Nat} {n : Nat} {sw su si : Nat → Nat} (h : ∀ j, j < n → si j = 1 → su j < pg 0) : zx_cs lx pg n sw su si = zx_os lx pg true n sw su si := by
  funext u w
  unfold zx_cs zx_os zx_agr
  rw [Bool.not_true, Bool.false_or]
  congr 1
  have key : ∀ m, m ≤ n → zt_all m (fun j => zx_cg (pg 0) (zx_sp lx) (sw j) (su j) (si j) u w) = zt_all m (zx_ag1 lx pg sw su si u w) := by
    intro m
    induction m with
    | zero => intro _; rfl
    | succ m ih =>
      intro hm
      simp only [zt_all]
      rw [ih (by omega)]
      congr 1
      unfold zx_cg zx_ag1 zx_psd zx_here
      by_cases e : si m = 1
      · rw [if_pos e, if_pos e]
        have hlt := h m (by omega) e
        by_cases e1 : u = su m
        · rw [if_pos e1, decide_eq_true (show u ≤ su m by omega), decide_eq_true (show su m ≤ u + zx_sp lx w by omega), decide_eq_true (show su m = u by omega)]
          have : decide (w = sw m) = decide (sw m = w) := decide_eq_decide.mpr ⟨fun h => h.symm, fun h => h.symm⟩
          rw [this]; simp
        · rw [if_neg e1, decide_eq_false (show ¬ su m = u by omega), Bool.and_false, Bool.not_false, Bool.and_true]
          by_cases e2 : u < su m
          · rw [if_pos e2, decide_eq_true (show u ≤ su m by omega), decide_eq_false (show ¬ pg 0 ≤ su m by omega), Bool.true_and, Bool.false_or]
            by_cases e3 : su m ≤ u + zx_sp lx w
            · rw [decide_eq_true e3]; simp
            · rw [decide_eq_false e3, decide_eq_false (show ¬ u + zx_sp lx w = pg 0 by omega)]; rfl
          · rw [if_neg e2, decide_eq_false (show ¬ u ≤ su m by omega)]; rfl
      · rw [if_neg e, if_neg e, Bool.and_comm]
        have h1 : decide (w = sw m) = decide (sw m = w) := decide_eq_decide.mpr ⟨fun h => h.symm, fun h => h.symm⟩
        have h2 : decide (u = su m) = decide (su m = u) := decide_eq_decide.mpr ⟨fun h => h.symm, fun h => h.symm⟩
        rw [h1, h2]
  exact key n (Nat.le_refl _)
/-- a unit beyond the line was seen: no reading is left -/
theorem zk_N_none {un nw : Nat} {sp : Nat → Nat} {op fo : Nat → Nat → Bool} (h : ∀ u w, w < nw → op u w = true → u < un → u + sp w ≠ un) : ∀ n u w, un - u ≤ n → w < nw → op u w = true → zk_N un nw sp op fo u w = 0 := by
  intro n
  induction n with
  | zero => intro u w hn _ _; exact zk_N_no (by omega)
  | succ n ih =>
    intro u w hn hw ho
    by_cases hu : u < un
    · rw [zk_N_on hu (h u w hw ho hu)]
      refine zt_sum_zero (fun v hv => ?_)
      cases q : (op (u + sp w + 1) v && fo w v)
      · rfl
      · rw [Bool.and_eq_true] at q
        rw [if_pos rfl]
        exact ih _ v (by omega) hv q.1
    · exact zk_N_no (by omega)
theorem zk_A_none {un nw : Nat} {sp : Nat → Nat} {op fo : Nat → Nat → Bool} (h : ∀ u w, w < nw → op u w = true → u < un → u + sp w ≠ un) : zk_A un nw sp op fo = 0 := by
  unfold zk_A
  refine zt_sum_zero (fun w hw => ?_)
  cases q : op 0 w
  · rfl
  · rw [if_pos rfl]; exact zk_N_none h un 0 w (by omega) hw q
theorem zx_cs_none {lx : Nat → Nat → Nat} {pg : Nat → Nat} {n : Nat} {sw su si : Nat → Nat} {j : Nat} (hj : j < n) (h1 : si j = 1) (h2 : pg 0 ≤ su j) : (∀ u w, w < lx 0 0 → zx_cs lx pg n sw su si u w = true → u < pg 0 → u + zx_sp lx w ≠ pg 0) ∧ ∀ u w, w < lx 0 0 → zx_os lx pg true n sw su si u w = true → u < pg 0 → u + zx_sp lx w ≠ pg 0 := by
  refine ⟨fun u w hw q hu _ => ?_, fun u w hw q hu e => ?_⟩
  · unfold zx_cs at q
    rw [Bool.and_eq_true] at q
    have := zt_all_iff.mp q.2 j hj
    unfold zx_cg at this
    rw [if_pos h1, if_neg (by omega), if_pos (by omega), decide_eq_true h2] at this
    cases this
  · unfold zx_os zx_agr at q
    rw [Bool.not_true, Bool.false_or, Bool.and_eq_true] at q
    have := zt_all_iff.mp q.2 j hj
    unfold zx_ag1 zx_psd zx_here at this
    rw [if_pos h1, decide_eq_true (show u ≤ su j by omega), decide_eq_true e, decide_eq_false (show ¬ su j = u by omega)] at this
    simp at this
theorem zx_cs_A {lx : Nat → Nat → Nat} {pg : Nat → Nat} {n : Nat} {sw su si : Nat → Nat} {fo : Nat → Nat → Bool} : (∀ j, j < n → si j = 1 → su j < pg 0) ∨ (zk_A (pg 0) (lx 0 0) (zx_sp lx) (zx_cs lx pg n sw su si) fo = 0 ∧ zk_A (pg 0) (lx 0 0) (zx_sp lx) (zx_os lx pg true n sw su si) fo = 0) := by
  by_cases q : ∃ j, j < n ∧ si j = 1 ∧ pg 0 ≤ su j
  · obtain ⟨j, h1, h2, h3⟩ := q
    have z := zx_cs_none (lx := lx) (pg := pg) (n := n) (sw := sw) (su := su) (si := si) h1 h2 h3
    exact Or.inr ⟨zk_A_none z.1, zk_A_none z.2⟩
  · exact Or.inl (fun j hj h1 => Nat.lt_of_not_le (fun z => q ⟨j, hj, h1, z⟩))
