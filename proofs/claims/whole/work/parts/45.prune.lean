def zy_up (f : Nat → Nat) (n v : Nat) : Nat → Nat := fun u => if u = n then v else f u
theorem zy_up_e {f : Nat → Nat} {n v : Nat} : zy_up f n v n = v := if_pos rfl
theorem zy_up_n {f : Nat → Nat} {n v u : Nat} (h : u ≠ n) : zy_up f n v u = f u := if_neg h
theorem zz_m1 (x : Int32) : x + (-1 : Int32) = x - 1 := by rw [Int32.sub_eq_add_neg]
theorem zz_p1 (x : Int32) : x - 1 + 1 = x := Int32.sub_add_cancel x 1
theorem zz_neg0 : (nI 0 - 1 : Int32) < 0 := by decide
theorem zz_dec {n : Nat} (h : n < 2 ^ 30) : (nI n + (-1 : Int32) + 1).toNatClampNeg < (nI n + 1).toNatClampNeg := by
  rw [zz_m1, zz_p1, show nI n + (1 : Int32) = nI (n + 1) from nI_1 n, nI_clamp (by omega), nI_clamp (by omega)]; omega
theorem zk_al_on {un nw : Nat} {sp : Nat → Nat} {op fo : Nat → Nat → Bool} {u w : Nat} (hu : u < un) (h : ¬ u + sp w = un) : 0 < zk_N un nw sp op fo u w ↔ ∃ v, v < nw ∧ op (u + sp w + 1) v = true ∧ fo w v = true ∧ 0 < zk_N un nw sp op fo (u + sp w + 1) v := by
  rw [zk_N_on hu h, zt_sum_pos]
  constructor
  · rintro ⟨v, hv, h1⟩
    cases q : (op (u + sp w + 1) v && fo w v)
    · rw [q] at h1; simp at h1
    · rw [q, if_pos rfl] at h1
      rw [Bool.and_eq_true] at q
      exact ⟨v, hv, q.1, q.2, h1⟩
  · rintro ⟨v, hv, h1, h2, h3⟩
    exact ⟨v, hv, by rw [h1, h2]; simpa using h3⟩
theorem zs_isOpen {I : zz_I} {L : zz_L} {om : Nat → Nat} {u w : Nat} {P : Int32 → Prop} (ho : I 38 u = nI (om u)) (hm : om u < 256) (hu : u < 25) (hw : w < 8) (h : P (zb_i ((om u).testBit w))) : zp_X0_isOpen (nI u) (nI w) P I L := by
  unfold zp_X0_isOpen
  rw [zn_cl (by omega), ho]
  refine ⟨vp_in_nI hu (by decide), zy_bit hm hw (fun q => ?_) (fun q => ?_)⟩
  · rw [q] at h; exact h
  · rw [q] at h; exact h
theorem zs_nextUnit {I : zz_I} {L : zz_L} {sp : Nat → Nat} {u w : Nat} {P : Int32 → Prop} (hs : I 41 w = nI (sp w)) (hw : w < 8) (h : P (nI (u + sp w + 1))) : zp_X0_nextUnit (nI u) (nI w) P I L := by
  unfold zp_X0_nextUnit
  rw [zn_cl (by omega), hs, nI_add, show nI (u + sp w) + (1 : Int32) = nI (u + sp w + 1) from nI_1 _]
  exact ⟨vp_in_nI hw (by decide), h⟩
def zk_p1 (I J : zz_I) (om1 : Nat → Nat) : Prop := (∀ k j, k ≠ 38 → J k j = I k j) ∧ ∀ u, u < 25 → J 38 u = nI (om1 u) ∧ om1 u < 256
/-- the first half of prune -/
theorem zs_prune1 {I : zz_I} {L : zz_L} {un nw : Nat} {sp : Nat → Nat} {fo : Nat → Nat → Bool} {om : Nat → Nat} {P : zz_I → zz_L → Prop} (hc : zk_ch I un nw sp fo om) (h : ∀ (J : zz_I) (om1 : Nat → Nat), zk_p1 I J om1 → (∀ u w, (om1 u).testBit w = ((om u).testBit w && decide (0 < zk_N un nw sp (fun u w => (om u).testBit w) fo u w))) → ∀ I67 : zz_I, I67 = zz_up J 37 8 (0 : Int32) → (zp_J7_fill_53178 39 25 (0 : Int32) (fun I75 L75 => vp_in (0 : Int32) 25 ∧ (∀ I86 : zz_I, I86 = zz_up I75 39 (0 : Int32).toNatClampNeg (255 : Int32) → (zp_X0_prune_89 P (0 : Int32) I86 L75))) I67 L)) : zp_X0_prune P I L := by
  obtain ⟨c6, c7, h24, h8, hw, hm, hin⟩ := hc
  rintro _ rfl
  rw [c6]
  refine ⟨fun y J M => ∃ (i : Nat) (om1 : Nat → Nat), i ≤ un ∧ y = nI i - 1 ∧ L = M ∧ zk_p1 I J om1 ∧ ∀ u w, (om1 u).testBit w = ((om u).testBit w && (decide (u < i) || decide (0 < zk_N un nw sp (fun u w => (om u).testBit w) fo u w))), fun y _ _ => (y + 1).toNatClampNeg, ⟨un, om, by omega, rfl, rfl, ⟨fun _ _ _ => rfl, hm⟩, fun u w => ?_⟩, ?_⟩
  · cases q : (om u).testBit w
    · rfl
    · have := hin u w q
      by_cases hu : u < un
      · simp [hu]
      · have h2 := (hw w this.1).2.1; omega
  rintro y J M ⟨i, om1, hi, rfl, rfl, hp, hb⟩
  unfold zp_X0_prune_7b
  cases i with
  | zero =>
    refine ⟨fun _ => h J om1 hp (fun u w => by rw [hb]; simp), fun c => absurd zz_neg0 c⟩
  | succ n =>
    rw [nI_pred n]
    refine ⟨fun c => absurd c (nI_pos (by omega)), fun _ => ?_⟩
    refine ⟨fun y J M => ∃ (j : Nat) (om1 : Nat → Nat), j ≤ nw ∧ y = nI j ∧ L = M ∧ zk_p1 I J om1 ∧ ∀ u w, (om1 u).testBit w = ((om u).testBit w && (decide (u < n) || (decide (u = n) && decide (j ≤ w)) || decide (0 < zk_N un nw sp (fun u w => (om u).testBit w) fo u w))), fun y _ _ => 8 - y.toNatClampNeg, ⟨0, om1, by omega, rfl, rfl, hp, fun u w => ?_⟩, ?_⟩
    · rw [hb]
      by_cases q1 : u < n
      · simp [q1, show u < n + 1 by omega]
      · by_cases q2 : u = n
        · simp [q2]
        · simp [q1, q2, show ¬ u < n + 1 by omega]
    clear hb hp om1
    rintro y J M ⟨j, om1, hj, rfl, rfl, ⟨hf, ho⟩, hb⟩
    unfold zp_X0_prune_13b
    have k7 : J 37 7 = nI nw := (hf 37 7 (by omega)).trans c7
    have k6 : J 37 6 = nI un := (hf 37 6 (by omega)).trans c6
    refine pk_le nw j (fun c => ?_) (fun c => ?_) (hx := k7)
    · rintro _ rfl
      refine ⟨⟨n, om1, by omega, zz_m1 _, rfl, ⟨hf, ho⟩, fun u w => ?_⟩, zz_dec (by omega)⟩
      rw [hb]
      cases q : (om u).testBit w
      · rfl
      · have := hin u w q
        simp [show ¬ j ≤ w by omega]
    · obtain ⟨s41, s2, s15, s40⟩ := hw j c
      have on := ho n (by omega)
      have n41 : J 41 j = nI (sp j) := (hf 41 j (by omega)).trans s41
      have n40 : J 40 j = nI (zy_mk nw (fo j)) := (hf 40 j (by omega)).trans s40
      have hbj : (om1 n).testBit j = (om n).testBit j := by rw [hb]; simp
      have stay : ((om n).testBit j = true → 0 < zk_N un nw sp (fun u w => (om u).testBit w) fo n j) → ∀ v53 : Int32, v53 = nI j + 1 → (∃ (j2 : Nat) (om1 : Nat → Nat), j2 ≤ nw ∧ v53 = nI j2 ∧ L = L ∧ zk_p1 I J om1 ∧ ∀ u w, (om1 u).testBit w = ((om u).testBit w && (decide (u < n) || (decide (u = n) && decide (j2 ≤ w)) || decide (0 < zk_N un nw sp (fun u w => (om u).testBit w) fo u w)))) ∧ 8 - v53.toNatClampNeg < 8 - (nI j).toNatClampNeg := by
        rintro q _ rfl
        refine ⟨⟨j + 1, om1, by omega, nI_1 j, rfl, ⟨hf, ho⟩, fun u w => ?_⟩, zz_down (by omega) (by omega)⟩
        rw [hb]
        by_cases e : u = n ∧ w = j
        · obtain ⟨rfl, rfl⟩ := e
          cases r : (om u).testBit w
          · rfl
          · simp [q r]
        · cases r : (om u).testBit w
          · rfl
          · by_cases e2 : u = n
            · subst e2
              have e3 : w ≠ j := fun z => e ⟨rfl, z⟩
              have : decide (j ≤ w) = decide (j + 1 ≤ w) := decide_eq_decide.mpr (by omega)
              rw [this]
            · simp [e2]
      refine zs_isOpen on.1 on.2 (by omega) (by omega) (zb_br (fun q => stay (fun r => ?_)) (fun q => ?_))
      · rw [hbj] at q; rw [q] at r; cases r
      · rw [hbj] at q
        have hle := (hin n j q).2
        have lead : ∀ b : Bool, (b = true ↔ 0 < zk_N un nw sp (fun u w => (om u).testBit w) fo n j) → (¬ zb_i b = 0 → ∀ v53 : Int32, v53 = nI j + 1 → (∃ (j2 : Nat) (om1 : Nat → Nat), j2 ≤ nw ∧ v53 = nI j2 ∧ L = L ∧ zk_p1 I J om1 ∧ ∀ u w, (om1 u).testBit w = ((om u).testBit w && (decide (u < n) || (decide (u = n) && decide (j2 ≤ w)) || decide (0 < zk_N un nw sp (fun u w => (om u).testBit w) fo u w)))) ∧ 8 - v53.toNatClampNeg < 8 - (nI j).toNatClampNeg) ∧ (zb_i b = 0 → vp_in (nI n) 25 ∧ (vp_in (nI n) 25 ∧ (∀ I52 : zz_I, I52 = zz_up J 38 (nI n).toNatClampNeg ((J 38 (nI n).toNatClampNeg) &&& (((1 : Int32) <<< (nI j &&& 31)) ^^^ (-1 : Int32))) → (∀ v53 : Int32, v53 = nI j + (1 : Int32) → ((∃ (j2 : Nat) (om1 : Nat → Nat), j2 ≤ nw ∧ v53 = nI j2 ∧ L = L ∧ zk_p1 I I52 om1 ∧ ∀ u w, (om1 u).testBit w = ((om u).testBit w && (decide (u < n) || (decide (u = n) && decide (j2 ≤ w)) || decide (0 < zk_N un nw sp (fun u w => (om u).testBit w) fo u w)))) ∧ 8 - v53.toNatClampNeg < 8 - (nI j).toNatClampNeg))))) := by
          intro b hb2
          refine zb_rb (fun r => stay (fun _ => hb2.mp r)) (fun r => ?_)
          refine ⟨vp_in_nI (by omega) (by decide), vp_in_nI (by omega) (by decide), ?_⟩
          rw [zn_cl (by omega), on.1, zy_andn on.2 (by omega)]
          rintro _ rfl _ rfl
          have hno : ¬ 0 < zk_N un nw sp (fun u w => (om u).testBit w) fo n j := fun z => by rw [hb2.mpr z] at r; cases r
          refine ⟨⟨j + 1, zy_up om1 n (om1 n &&& (255 ^^^ 2 ^ j)), by omega, nI_1 j, rfl, ⟨fun k j2 hk => (zu_k hk).trans (hf k j2 hk), fun u hu => ?_⟩, fun u w => ?_⟩, zz_down (by omega) (by omega)⟩
          · by_cases e : u = n
            · subst e
              rw [zu_e, zy_up_e]
              exact ⟨rfl, Nat.lt_of_le_of_lt Nat.and_le_left on.2⟩
            · rw [zu_i e, zy_up_n e]; exact ho u hu
          · by_cases e : u = n
            · subst e
              rw [zy_up_e, zy_tbn on.2, hb]
              by_cases e3 : w = j
              · subst e3
                simp [hno]
              · have : decide (j ≤ w) = decide (j + 1 ≤ w) := decide_eq_decide.mpr (by omega)
                simp [e3, this]
            · rw [zy_up_n e, hb]
              simp [e]
        refine zs_nextUnit n41 (by omega) ?_
        rw [k6]
        refine pk_lt un (n + sp j + 1) (fun c1 => ?_) (fun c1 => ⟨vp_in_nI (by omega) (by decide), vp_in_nI (by omega) (by decide), ?_⟩)
        · exact lead true ⟨fun _ => by rw [zk_N_end (by omega) (by omega)]; omega, fun _ => rfl⟩
        · rw [zn_cl (by omega), zn_cl (by omega), (ho (n + sp j + 1) (by omega)).1, n40]
          have hon := zk_al_on (un := un) (nw := nw) (sp := sp) (op := fun u w => (om u).testBit w) (fo := fo) (u := n) (w := j) (by omega) (by omega)
          refine zy_and0 (ho (n + sp j + 1) (by omega)).2 (zy_mk_256 h8) (fun r => lead false ⟨fun z => (Bool.noConfusion z), fun z => ?_⟩) (fun r => lead true ⟨fun _ => ?_, fun _ => rfl⟩)
          · obtain ⟨v, hv, y1, y2, y3⟩ := hon.mp z
            have := r v
            rw [hb, zy_mk_bit] at this
            have y1 : (om (n + sp j + 1)).testBit v = true := y1
            rw [y1, y2] at this
            simp [y3, hv] at this
          · obtain ⟨v, hv, y1, y2⟩ := r
            rw [hb] at y1
            rw [zy_mk_bit, Bool.and_eq_true, decide_eq_true_eq] at y2
            rw [Bool.and_eq_true] at y1
            have : decide (n + sp j + 1 < n) = false := decide_eq_false (by omega)
            have t2 : decide (n + sp j + 1 = n) = false := decide_eq_false (by omega)
            rw [this, t2] at y1
            simp at y1
            exact hon.mpr ⟨v, y2.1, y1.1, y2.2, y1.2⟩
