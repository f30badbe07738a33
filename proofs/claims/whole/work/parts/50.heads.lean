/-! beginnings of readings -/
def zk_H (nw : Nat) (sp : Nat → Nat) (op fo : Nat → Nat → Bool) (u w : Nat) : Nat :=
  if u = 0 then 1 else zt_sum nw (fun v => if h : sp v + 1 ≤ u then (if op (u - (sp v + 1)) v && fo v w then zk_H nw sp op fo (u - (sp v + 1)) v else 0) else 0)
termination_by u
decreasing_by omega
section
variable {un nw : Nat} {sp : Nat → Nat} {op op' fo : Nat → Nat → Bool}
theorem zk_H_0 {w : Nat} : zk_H nw sp op fo 0 w = 1 := by rw [zk_H, if_pos rfl]
theorem zk_H_on {u w : Nat} (hu : u ≠ 0) : zk_H nw sp op fo u w = zt_sum nw (fun v => if sp v + 1 ≤ u then (if op (u - (sp v + 1)) v && fo v w then zk_H nw sp op fo (u - (sp v + 1)) v else 0) else 0) := by
  rw [zk_H, if_neg hu]
  refine zt_sum_congr (fun v _ => ?_)
  by_cases q : sp v + 1 ≤ u
  · rw [dif_pos q, if_pos q]
  · rw [dif_neg q, if_neg q]
theorem zk_H_bd (hnw : nw ≤ 8) (hsp : ∀ w, w < nw → 2 ≤ sp w) : ∀ n u w, u ≤ n → zk_H nw sp op fo u w ≤ 8 ^ (u / 3) := by
  intro n
  induction n with
  | zero => intro u w hn; have : u = 0 := by omega
            subst this; rw [zk_H_0]; exact Nat.le_refl _
  | succ n ih =>
    intro u w hn
    by_cases h0 : u = 0
    · subst h0; rw [zk_H_0]; exact Nat.le_refl _
    · rw [zk_H_on h0]
      by_cases h3 : u < 3
      · rw [zt_sum_zero]
        · exact Nat.zero_le _
        · intro v hv
          have := hsp v hv
          rw [if_neg (by omega)]
      · have hb : ∀ v, v < nw → (if sp v + 1 ≤ u then (if op (u - (sp v + 1)) v && fo v w then zk_H nw sp op fo (u - (sp v + 1)) v else 0) else 0) ≤ 8 ^ ((u - 3) / 3) := by
          intro v hv
          have h2 := hsp v hv
          have h4 := ih (u - (sp v + 1)) v (by omega)
          have h5 : 8 ^ ((u - (sp v + 1)) / 3) ≤ 8 ^ ((u - 3) / 3) := Nat.pow_le_pow_right (by decide) (Nat.div_le_div_right (by omega))
          split
          · split
            · exact Nat.le_trans h4 h5
            · exact Nat.zero_le _
          · exact Nat.zero_le _
        refine Nat.le_trans (zt_sum_le hb) (Nat.le_trans (Nat.mul_le_mul_right _ hnw) ?_)
        rw [zk_8 (by omega)]; exact Nat.le_refl _
/-- a place that leads on to a living one lives -/
theorem zk_live {u v w : Nat} (hsp : sp v + 1 ≤ u) (hu : u < un) (hw : w < nw) (ho : op u w = true) (hf : fo v w = true) (hN : 0 < zk_N un nw sp op fo u w) : 0 < zk_N un nw sp op fo (u - (sp v + 1)) v := by
  have e : u - (sp v + 1) + sp v + 1 = u := by omega
  refine (zk_al_on (by omega) (by omega)).mpr ⟨w, hw, ?_, hf, ?_⟩
  · rw [e]; exact ho
  · rw [e]; exact hN
theorem zk_B {om' : Nat → Nat} (hin : ∀ u w, w < nw → op u w = true → u < un) (h : zk_op un nw sp fo op om') : ∀ n u w, u ≤ n → w < nw → op u w = true → 0 < zk_N un nw sp op fo u w → 0 < zk_H nw sp op fo u w → (om' u).testBit w = true := by
  obtain ⟨p1, p2, p3⟩ := h
  intro n
  induction n with
  | zero => intro u w hn hw ho hN _
            have : u = 0 := by omega
            subst this; exact p2 w hw ho hN
  | succ n ih =>
    intro u w hn hw ho hN hH
    by_cases h0 : u = 0
    · subst h0; exact p2 w hw ho hN
    · rw [zk_H_on h0, zt_sum_pos] at hH
      obtain ⟨v, hv, hH⟩ := hH
      by_cases q : sp v + 1 ≤ u
      · rw [if_pos q] at hH
        cases r : (op (u - (sp v + 1)) v && fo v w)
        · rw [r] at hH; exact absurd hH (by simp)
        · rw [r, if_pos rfl] at hH
          rw [Bool.and_eq_true] at r
          have hl := zk_live q (hin u w hw ho) hw ho r.2 hN
          have := ih _ v (by omega) hv r.1 hl hH
          have e : u - (sp v + 1) + sp v + 1 = u := by omega
          have h3 := p3 _ v w this hw (by rw [e]; exact ho) r.2 (by rw [e]; exact hN)
          rw [e] at h3; exact h3
      · rw [if_neg q] at hH; exact absurd hH (by omega)
theorem zk_HA {om' : Nat → Nat} (hin : ∀ u w, w < nw → op u w = true → u < un) (h : zk_op un nw sp fo op om') : ∀ n u w, u ≤ n → w < nw → op u w = true → 0 < zk_N un nw sp op fo u w → zk_H nw sp (fun u w => (om' u).testBit w) fo u w = zk_H nw sp op fo u w := by
  intro n
  induction n with
  | zero => intro u w hn hw ho hN
            have : u = 0 := by omega
            subst this; rw [zk_H_0, zk_H_0]
  | succ n ih =>
    intro u w hn hw ho hN
    by_cases h0 : u = 0
    · subst h0; rw [zk_H_0, zk_H_0]
    · rw [zk_H_on h0, zk_H_on h0]
      refine zt_sum_congr (fun v hv => ?_)
      by_cases q : sp v + 1 ≤ u
      · rw [if_pos q, if_pos q]
        cases f : fo v w
        · rw [Bool.and_false, Bool.and_false]; rfl
        · rw [Bool.and_true, Bool.and_true]
          cases r : (om' (u - (sp v + 1))).testBit v
          · cases s : op (u - (sp v + 1)) v
            · rfl
            · have hl := zk_live q (hin u w hw ho) hw ho f hN
              have : zk_H nw sp op fo (u - (sp v + 1)) v = 0 := by
                refine Nat.eq_zero_of_not_pos (fun hp => ?_)
                have := zk_B hin h _ _ v (Nat.le_refl _) hv s hl hp
                rw [r] at this; cases this
              rw [this]; rfl
          · have s := (h.1 _ _ r).2
            rw [s]
            have hl := zk_live q (hin u w hw ho) hw ho f hN
            exact ih _ v (by omega) hv s hl
      · rw [if_neg q, if_neg q]
/-- the readings through a place, by the chart's places and by all -/
theorem zk_thru {om' : Nat → Nat} (hin : ∀ u w, w < nw → op u w = true → u < un) (h : zk_op un nw sp fo op om') {u w : Nat} (hw : w < nw) : (if (om' u).testBit w then zk_H nw sp (fun u w => (om' u).testBit w) fo u w * zk_N un nw sp op fo u w else 0) = if op u w then zk_H nw sp op fo u w * zk_N un nw sp op fo u w else 0 := by
  cases r : (om' u).testBit w
  · cases s : op u w
    · rfl
    · by_cases hN : 0 < zk_N un nw sp op fo u w
      · have : zk_H nw sp op fo u w = 0 := by
          refine Nat.eq_zero_of_not_pos (fun hp => ?_)
          have := zk_B hin h u u w (Nat.le_refl _) hw s hN hp
          rw [r] at this; cases this
        rw [this]; simp
      · have : zk_N un nw sp op fo u w = 0 := by omega
        rw [this]; simp
  · have s := (h.1 _ _ r).2
    rw [s, if_pos rfl, if_pos rfl]
    by_cases hN : 0 < zk_N un nw sp op fo u w
    · rw [zk_HA hin h u u w (Nat.le_refl _) hw s hN]
    · have : zk_N un nw sp op fo u w = 0 := by omega
      rw [this]; simp
theorem zt_one {n c : Nat} {f : Nat → Nat} (h : ∀ i, i < n → i ≠ c → f i = 0) : zt_sum n f = if c < n then f c else 0 := by
  induction n with
  | zero => rfl
  | succ n ih =>
    simp only [zt_sum]
    rw [ih (fun i hi hc => h i (by omega) hc)]
    by_cases q : c = n
    · subst q; rw [if_neg (by omega), if_pos (by omega), Nat.zero_add]
    · rw [h n (by omega) (fun z => q z.symm), Nat.add_zero]
      by_cases r : c < n
      · rw [if_pos r, if_pos (by omega)]
      · rw [if_neg r, if_neg (by omega)]
/-- every reading has one word that covers a unit, or has its blank there -/
theorem zk_cut : ∀ c, c < un → zt_sum (c + 1) (fun u => zt_sum nw (fun w => if op u w && decide (c < u + sp w + 1) then zk_H nw sp op fo u w * zk_N un nw sp op fo u w else 0)) = zk_A un nw sp op fo := by
  intro c
  induction c with
  | zero =>
    intro _
    simp only [zt_sum]
    rw [Nat.zero_add]
    unfold zk_A
    refine zt_sum_congr (fun w _ => ?_)
    rw [zk_H_0, Nat.one_mul]
    have : decide (0 < 0 + sp w + 1) = true := decide_eq_true (by omega)
    rw [this, Bool.and_true]
  | succ c ih =>
    intro hc
    rw [← ih (by omega)]
    have hs : ∀ n, zt_sum n (fun u => zt_sum nw (fun w => if op u w && decide (c < u + sp w + 1) then zk_H nw sp op fo u w * zk_N un nw sp op fo u w else 0)) = zt_sum n (fun u => zt_sum nw (fun w => if op u w && decide (c + 1 < u + sp w + 1) then zk_H nw sp op fo u w * zk_N un nw sp op fo u w else 0)) + zt_sum n (fun u => zt_sum nw (fun w => if op u w && decide (u + sp w = c) then zk_H nw sp op fo u w * zk_N un nw sp op fo u w else 0)) := by
      intro n
      rw [← zt_sum_add]
      refine zt_sum_congr (fun u _ => ?_)
      rw [← zt_sum_add]
      refine zt_sum_congr (fun w _ => ?_)
      cases op u w
      · rfl
      · by_cases q : c + 1 < u + sp w + 1
        · rw [decide_eq_true q, decide_eq_true (show c < u + sp w + 1 by omega), decide_eq_false (show ¬ u + sp w = c by omega)]; rfl
        · rw [decide_eq_false q]
          by_cases r : u + sp w = c
          · rw [decide_eq_true r, decide_eq_true (show c < u + sp w + 1 by omega)]; simp
          · rw [decide_eq_false r, decide_eq_false (show ¬ c < u + sp w + 1 by omega)]; rfl
    rw [hs]
    have e1 : zt_sum (c + 1 + 1) (fun u => zt_sum nw (fun w => if op u w && decide (c + 1 < u + sp w + 1) then zk_H nw sp op fo u w * zk_N un nw sp op fo u w else 0)) = zt_sum (c + 1) (fun u => zt_sum nw (fun w => if op u w && decide (c + 1 < u + sp w + 1) then zk_H nw sp op fo u w * zk_N un nw sp op fo u w else 0)) + zt_sum nw (fun w => if op (c + 1) w then zk_H nw sp op fo (c + 1) w * zk_N un nw sp op fo (c + 1) w else 0) := by
      show zt_sum (c + 1) _ + zt_sum nw (fun w => if op (c + 1) w && decide (c + 1 < c + 1 + sp w + 1) then zk_H nw sp op fo (c + 1) w * zk_N un nw sp op fo (c + 1) w else 0) = _
      congr 1
      refine zt_sum_congr (fun w _ => ?_)
      rw [decide_eq_true (show c + 1 < c + 1 + sp w + 1 by omega), Bool.and_true]
    rw [e1]
    congr 1
    rw [zt_sum_swap]
    have l1 : ∀ v, v < nw → zt_sum (c + 1) (fun u => if op u v && decide (u + sp v = c) then zk_H nw sp op fo u v * zk_N un nw sp op fo u v else 0) = zt_sum nw (fun w => if op (c + 1) w then (if sp v + 1 ≤ c + 1 then (if op (c + 1 - (sp v + 1)) v && fo v w then zk_H nw sp op fo (c + 1 - (sp v + 1)) v else 0) else 0) * zk_N un nw sp op fo (c + 1) w else 0) := by
      intro v hv
      by_cases q : sp v ≤ c
      · rw [zt_one (c := c - sp v)]
        · rw [if_pos (by omega), decide_eq_true (show c - sp v + sp v = c by omega), Bool.and_true]
          have e2 : c - sp v + sp v + 1 = c + 1 := by omega
          have e3 : c + 1 - (sp v + 1) = c - sp v := by omega
          rw [zk_N_on (by omega) (by omega), e2, e3]
          cases r : op (c - sp v) v
          · rw [if_neg (by simp)]
            rw [zt_sum_zero]
            intro w _
            simp
          · rw [if_pos rfl, ← zt_sum_mul]
            refine zt_sum_congr (fun w _ => ?_)
            rw [if_pos (show sp v + 1 ≤ c + 1 by omega), Bool.true_and]
            cases op (c + 1) w <;> cases fo v w <;> simp
        · intro u hu hne
          rw [decide_eq_false (show ¬ u + sp v = c by omega), Bool.and_false]; rfl
      · rw [zt_sum_zero, zt_sum_zero]
        · intro w _
          rw [if_neg (show ¬ sp v + 1 ≤ c + 1 by omega)]; simp
        · intro u hu
          rw [decide_eq_false (show ¬ u + sp v = c by omega), Bool.and_false]; rfl
    rw [zt_sum_congr l1, zt_sum_swap]
    refine zt_sum_congr (fun w _ => ?_)
    cases op (c + 1) w
    · simp only [Bool.false_eq_true, if_false]
      rw [zt_sum_zero (fun _ _ => rfl)]
    · simp only [if_true]
      rw [zk_H_on (by omega), Nat.mul_comm, ← zt_sum_mul]
      refine zt_sum_congr (fun v _ => ?_)
      rw [Nat.mul_comm]
end
